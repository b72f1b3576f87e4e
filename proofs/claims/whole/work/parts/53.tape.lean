/-! tell, where, copies -/
section TE
variable {n w : Nat} {ag jo pa : Nat → Int} {co : Nat → Nat → Int} {he : Nat → Bool} {wc wd wt : Nat → Int} {M : Mm}
theorem q_place (hs : Sh M) (hn : mg M 1 4 = (n : Int)) (a : Int) : f_Band_isPlace M 1 a = some (if a = -1 ∨ a = -2 ∨ (0 ≤ a ∧ a < (n : Int)) then 1 else 0) := by
  unfold f_Band_isPlace
  by_cases c1 : a = -1
  · simp [c1]
  by_cases c2 : a = -2
  · simp [c2]
  by_cases c3 : 0 ≤ a ∧ a < (n : Int)
  · simp [c1, c2, c3, cI, p_0_0 hs, q_has_n hn]
  · simp [c1, c2, c3, cI, p_0_0 hs, q_has_n hn]
theorem m_place (hn : mg M 79 1 = (n : Int)) (a : Int) : f_Model_isThere M 80 a = some (if a = -1 ∨ a = -2 ∨ (0 ≤ a ∧ a < (n : Int)) then 1 else 0) := by
  unfold f_Model_isThere
  by_cases c1 : a = -1
  · simp [c1]
  by_cases c2 : a = -2
  · simp [c2]
  by_cases c3 : 0 ≤ a ∧ a < (n : Int)
  · simp [c1, c2, c3, m_has_n hn]
  · simp [c1, c2, c3, m_has_n hn]
def WNo (c k : Nat) : Prop := (c = 55 ∧ k = 5) ∨ (56 ≤ c ∧ c ≤ 58)
def WMw (c k : Nat) : Prop := (c = 79 ∧ (k = 0 ∨ k = 24)) ∨ (99 ≤ c ∧ c ≤ 101)
def cTell (n w : Nat) (c d t : Int) : Prop := (0 ≤ c ∧ c ≤ 29) ∧ (0 ≤ d ∧ d ≤ 999) ∧ (t = -1 ∨ t = -2 ∨ (0 ≤ t ∧ t < (n : Int))) ∧ w < 200
theorem b_tell_t (hs : Sh M) (hn : mg M 1 4 = (n : Int)) (h : CBw w wc wd wt M) {c d t : Int} (hc : cTell n w c d t) : wp (f_Band_tell M 1 c d t) (fun q => q.1 = (w : Int) ∧ CBw (w + 1) (up wc w c) (up wd w d) (up wt w t) q.2 ∧ Fr WNo M q.2) := by
  obtain ⟨c1, c2, c3, c4⟩ := hc
  obtain ⟨h1, h2⟩ := h
  have g1 : (w : Int) < 200 := by omega
  have e1 : w32 ((w : Int) + 1) = (w : Int) + 1 := w32_s (by omega) (by omega)
  have e2 : w32 (w : Int) = (w : Int) := w32_s (by omega) (by omega)
  refine eq_w (a := ((w : Int), mp (mp (mp (mp M 56 w c) 57 w d) 58 w t) 55 5 ((w : Int) + 1))) ?_ ⟨rfl, ?_, ?_⟩
  · have en : f_Loans_note M 56 c d t = some ((w : Int), mp (mp (mp (mp M 56 w c) 57 w d) 58 w t) 55 5 ((w : Int) + 1)) := by
      unfold f_Loans_note
      simp [lt, cI, mg_mp, ml_mp, h1, p_55_0 hs, p_55_1 hs, p_55_2 hs, n_56 hs, n_57 hs, n_58 hs, e1, e2, g1, Int.add_sub_cancel]
    unfold f_Band_tell
    simp only [q_copy, q_day, q_place hs hn, if_pos c1, if_pos c2, if_pos c3, Option.bind_some, show mg M (cI 1) 4 = 56 from p_0_4 hs, en]
    rfl
  · refine ⟨by simp [mg_mp], fun j hj => ?_⟩
    simp only [mg_mp, up]
    by_cases e : j = w
    · simp [e]
    · have := h2 j (by omega)
      simp [e, this.1, this.2.1, this.2.2]
  · exact Fr_wr (Fr_wr (Fr_wr (Fr_mp (by unfold WNo; omega)) (by unfold WNo; omega)) (by unfold WNo; omega)) (by unfold WNo; omega)
theorem b_tell_f (hs : Sh M) (hn : mg M 1 4 = (n : Int)) (h : CBw w wc wd wt M) {c d t : Int} (hc : ¬ cTell n w c d t) : f_Band_tell M 1 c d t = some (-1, M) := by
  unfold f_Band_tell
  by_cases c1 : 0 ≤ c ∧ c ≤ 29
  · by_cases c2 : 0 ≤ d ∧ d ≤ 999
    · by_cases c3 : t = -1 ∨ t = -2 ∨ (0 ≤ t ∧ t < (n : Int))
      · have c4 : ¬ w < 200 := fun c4 => hc ⟨c1, c2, c3, c4⟩
        have en : f_Loans_note M 56 c d t = some (-1, M) := by
          unfold f_Loans_note
          rw [show mg M (cI 56) 5 = (w : Int) from h.1, if_neg (by omega)]
        simp only [q_copy, q_day, q_place hs hn, if_pos c1, if_pos c2, if_pos c3, Option.bind_some, show mg M (cI 1) 4 = 56 from p_0_4 hs, en]
        rfl
      · simp only [q_copy, q_day, q_place hs hn, if_pos c1, if_pos c2, if_neg c3, Option.bind_some]
        rfl
    · simp only [q_copy, q_day, if_pos c1, if_neg c2, Option.bind_some]
      rfl
  · simp only [q_copy, if_neg c1, Option.bind_some]
    rfl
theorem m_tell_t (hs : Sh M) (hn : mg M 79 1 = (n : Int)) (h : CMw w wc wd wt M) {c d t : Int} (hc : cTell n w c d t) : wp (f_Model_tell M 80 c d t) (fun q => q.1 = (w : Int) ∧ CMw (w + 1) (up wc w c) (up wd w d) (up wt w t) q.2 ∧ Fr WMw M q.2) := by
  obtain ⟨c1, c2, c3, c4⟩ := hc
  obtain ⟨h1, h2⟩ := h
  have hn' : mg (mp M 79 0 0) 79 1 = (n : Int) := by simp [mg_mp, hn]
  have g1 : (w : Int) < 200 := by omega
  have g2 : ¬ (w : Int) = 200 := by omega
  have g3 : ¬ c < 0 := by omega
  have g4 : ¬ 29 < c := by omega
  have e1 : w32 ((w : Int) + 1) = (w : Int) + 1 := w32_s (by omega) (by omega)
  have e2 : w32 (w : Int) = (w : Int) := w32_s (by omega) (by omega)
  refine eq_w (a := ((w : Int), mp (mp (mp (mp (mp M 79 0 0) 99 w c) 100 w d) 101 w t) 79 24 ((w : Int) + 1))) ?_ ⟨rfl, ?_, ?_⟩
  · unfold f_Model_tell
    simp [lt, cI, mg_mp, ml_mp, m_day, m_place hn', if_pos c2, if_pos c3, g3, g4, h1, p_79_25 hs, p_79_26 hs, p_79_27 hs, n_99 hs, n_100 hs, n_101 hs, e1, e2, g1, g2, Int.add_sub_cancel]
  · refine ⟨by simp [mg_mp], fun j hj => ?_⟩
    simp only [mg_mp, up]
    by_cases e : j = w
    · simp [e]
    · have := h2 j (by omega)
      simp [e, this.1, this.2.1, this.2.2]
  · exact Fr_wr (Fr_wr (Fr_wr (Fr_wr (Fr_mp (by unfold WMw; omega)) (by unfold WMw; omega)) (by unfold WMw; omega)) (by unfold WMw; omega)) (by unfold WMw; omega)
theorem m_tell_f (hn : mg M 79 1 = (n : Int)) (h : CMw w wc wd wt M) (hw : w ≤ 200) {c d t : Int} (hc : ¬ cTell n w c d t) : f_Model_tell M 80 c d t = some (-1, mp M 79 0 0) := by
  have hn' : mg (mp M 79 0 0) 79 1 = (n : Int) := by simp [mg_mp, hn]
  unfold f_Model_tell
  by_cases c1 : c < 0
  · simp [lt, cI, c1]
  by_cases c1' : 29 < c
  · simp [lt, cI, c1, c1']
  by_cases c2 : 0 ≤ d ∧ d ≤ 999
  · by_cases c3 : t = -1 ∨ t = -2 ∨ (0 ≤ t ∧ t < (n : Int))
    · have c4 : w = 200 := by
        have : ¬ w < 200 := fun c4 => hc ⟨by omega, c2, c3, c4⟩
        omega
      have h1 := h.1
      subst c4
      simp [lt, cI, c1, c1', mg_mp, m_day, m_place hn', if_pos c2, if_pos c3, h1]
    · simp [lt, cI, c1, c1', m_day, m_place hn', if_pos c2, if_neg c3]
  · simp [lt, cI, c1, c1', m_day, if_neg c2]
def cWh (w : Nat) (c d n : Int) : Prop := (0 ≤ c ∧ c ≤ 29) ∧ (0 ≤ d ∧ d ≤ 999) ∧ (0 ≤ n ∧ n ≤ (w : Int))
theorem b_where_t (hs : Sh M) (h : CBw w wc wd wt M) (ho : OKw w wc) {c d x : Int} (hc : cWh w c d x) : wp (f_Band_where M 1 c d x) (fun q => q.1 = (whl wc wd wt c d x.toNat).2 ∧ Fr WLo M q.2) := by
  obtain ⟨c1, c2, c3⟩ := hc
  obtain ⟨c', rfl, hc'⟩ := nat_of (n := 30) c1.1 (by omega)
  obtain ⟨x', rfl, hx'⟩ := nat_of (n := w + 1) c3.1 (by omega)
  unfold f_Band_where
  simp only [q_copy, q_day, q_within, if_pos c1, if_pos c2, Option.bind_some, show mg M (cI 1) 4 = 56 from p_0_4 hs, show mg M (cI 56) 5 = (w : Int) from h.1, if_pos c3]
  refine wE (by decide) (wE (by decide) (wI (by decide) (wI (by decide) ?_)))
  exact wK (b_placeOf hs h ho d hc' (show x' ≤ w by omega)) (fun q hq => wS hq)
theorem b_where_f (hs : Sh M) (h : CBw w wc wd wt M) {c d x : Int} (hc : ¬ cWh w c d x) : f_Band_where M 1 c d x = some (-3, M) := by
  unfold f_Band_where
  by_cases c1 : 0 ≤ c ∧ c ≤ 29
  · by_cases c2 : 0 ≤ d ∧ d ≤ 999
    · have c3 : ¬ (0 ≤ x ∧ x ≤ (w : Int)) := fun c3 => hc ⟨c1, c2, c3⟩
      simp only [q_copy, q_day, q_within, if_pos c1, if_pos c2, if_neg c3, Option.bind_some, show mg M (cI 1) 4 = 56 from p_0_4 hs, show mg M (cI 56) 5 = (w : Int) from h.1]
      rfl
    · simp only [q_copy, q_day, if_pos c1, if_neg c2, Option.bind_some]
      rfl
  · simp only [q_copy, if_neg c1, Option.bind_some]
    rfl
theorem m_where (hs : Sh M) (h : CMw w wc wd wt M) (hw : w ≤ 200) (c d x : Int) : f_Model_where M 80 c d x = some (if (0 ≤ c ∧ c ≤ 29) ∧ (0 ≤ d ∧ d ≤ 999) ∧ (0 ≤ x ∧ x ≤ (w : Int)) then (whl wc wd wt c d x.toNat).2 else -3, mp M 79 0 0) := by
  have hs' : Sh (mp M 79 0 0) := Sh_mp hs (by unfold isP; omega)
  have h' : CMw w wc wd wt (mp M 79 0 0) := CMw_fr h (Fr_mp (W := fun c k => c = 79 ∧ k = 0) ⟨rfl, rfl⟩) (fun c k e => by omega)
  unfold f_Model_where
  by_cases c1 : c < 0
  · have : ¬ ((0 ≤ c ∧ c ≤ 29) ∧ (0 ≤ d ∧ d ≤ 999) ∧ (0 ≤ x ∧ x ≤ (w : Int))) := by omega
    simp only [if_neg this, lt, if_pos c1]
    rfl
  by_cases c1' : 29 < c
  · have : ¬ ((0 ≤ c ∧ c ≤ 29) ∧ (0 ≤ d ∧ d ≤ 999) ∧ (0 ≤ x ∧ x ≤ (w : Int))) := by omega
    simp only [if_neg this, lt, if_neg c1, if_pos c1']
    rfl
  by_cases c2 : 0 ≤ d ∧ d ≤ 999
  · by_cases c3 : x < 0
    · have : ¬ ((0 ≤ c ∧ c ≤ 29) ∧ (0 ≤ d ∧ d ≤ 999) ∧ (0 ≤ x ∧ x ≤ (w : Int))) := by omega
      simp only [if_neg this, lt, if_neg c1, if_neg c1', m_day, if_pos c2, Option.bind_some, if_pos c3]
      rfl
    · by_cases c4 : x ≤ (w : Int)
      · have : (0 ≤ c ∧ c ≤ 29) ∧ (0 ≤ d ∧ d ≤ 999) ∧ (0 ≤ x ∧ x ≤ (w : Int)) := by omega
        obtain ⟨x', rfl, hx'⟩ := nat_of (n := w + 1) this.2.2.1 (by omega)
        have e : mg (mp M (cI 80) 0 0) (cI 80) 24 = (w : Int) := h'.1
        have e2 : f_Model_whereIs (mp M (cI 80) 0 0) 80 c d (x' : Int) = some (whl wc wd wt c d x').2 := m_whereIs hs' h' hw c d (by omega)
        simp only [if_pos this, lt, if_neg c1, if_neg c1', m_day, if_pos c2, Option.bind_some, if_neg c3, e, if_pos c4, e2]
        rfl
      · have : ¬ ((0 ≤ c ∧ c ≤ 29) ∧ (0 ≤ d ∧ d ≤ 999) ∧ (0 ≤ x ∧ x ≤ (w : Int))) := by omega
        have e : mg (mp M (cI 80) 0 0) (cI 80) 24 = (w : Int) := h'.1
        simp only [if_neg this, lt, if_neg c1, if_neg c1', m_day, if_pos c2, Option.bind_some, if_neg c3, e, if_neg c4]
        rfl
  · have : ¬ ((0 ≤ c ∧ c ≤ 29) ∧ (0 ≤ d ∧ d ≤ 999) ∧ (0 ≤ x ∧ x ≤ (w : Int))) := fun e => c2 e.2.1
    simp only [if_neg this, lt, if_neg c1, if_neg c1', m_day, if_neg c2, Option.bind_some]
    rfl
def cCp (n w : Nat) (t d x : Int) : Prop := (t = -1 ∨ t = -2 ∨ (0 ≤ t ∧ t < (n : Int))) ∧ (0 ≤ d ∧ d ≤ 999) ∧ (0 ≤ x ∧ x ≤ (w : Int))
theorem b_copies_t (hs : Sh M) (hn : mg M 1 4 = (n : Int)) (h : CBw w wc wd wt M) (ho : OKw w wc) {t d x : Int} (hc : cCp n w t d x) : wp (f_Band_copies M 1 t d x) (fun q => q.1 = cps wc wd wt t d x.toNat 30 ∧ Fr WLo M q.2) := by
  obtain ⟨c1, c2, c3⟩ := hc
  obtain ⟨x', rfl, hx'⟩ := nat_of (n := w + 1) c3.1 (by omega)
  unfold f_Band_copies
  simp only [q_place hs hn, q_day, q_within, if_pos c1, if_pos c2, Option.bind_some, show mg M (cI 1) 4 = 56 from p_0_4 hs, show mg M (cI 56) 5 = (w : Int) from h.1, if_pos c3]
  refine wE (by decide) (wE (by decide) (wI (by decide) (wI (by decide) ?_)))
  exact wK (b_copiesAt hs h ho t d (show x' ≤ w by omega)) (fun q hq => wS hq)
theorem b_copies_f (hs : Sh M) (hn : mg M 1 4 = (n : Int)) (h : CBw w wc wd wt M) {t d x : Int} (hc : ¬ cCp n w t d x) : f_Band_copies M 1 t d x = some (-1, M) := by
  unfold f_Band_copies
  by_cases c1 : t = -1 ∨ t = -2 ∨ (0 ≤ t ∧ t < (n : Int))
  · by_cases c2 : 0 ≤ d ∧ d ≤ 999
    · have c3 : ¬ (0 ≤ x ∧ x ≤ (w : Int)) := fun c3 => hc ⟨c1, c2, c3⟩
      simp only [q_place hs hn, q_day, q_within, if_pos c1, if_pos c2, if_neg c3, Option.bind_some, show mg M (cI 1) 4 = 56 from p_0_4 hs, show mg M (cI 56) 5 = (w : Int) from h.1]
      rfl
    · simp only [q_place hs hn, q_day, if_pos c1, if_neg c2, Option.bind_some]
      rfl
  · simp only [q_place hs hn, if_neg c1, Option.bind_some]
    rfl
theorem m_copies_t (hs : Sh M) (hn : mg M 79 1 = (n : Int)) (h : CMw w wc wd wt M) (hw : w ≤ 200) {t d x : Int} (hc : cCp n w t d x) : f_Model_copies M 80 t d x = some (cps wc wd wt t d x.toNat 30, mp M 79 0 0) := by
  have hs' : Sh (mp M 79 0 0) := Sh_mp hs (by unfold isP; omega)
  have hn' : mg (mp M 79 0 0) 79 1 = (n : Int) := by simp [mg_mp, hn]
  have h' : CMw w wc wd wt (mp M 79 0 0) := CMw_fr h (Fr_mp (W := fun c k => c = 79 ∧ k = 0) ⟨rfl, rfl⟩) (fun c k e => by omega)
  obtain ⟨c1, c2, c3⟩ := hc
  obtain ⟨x', rfl, hx'⟩ := nat_of (n := w + 1) c3.1 (by omega)
  have e : mg (mp M 79 0 0) 79 24 = (w : Int) := h'.1
  unfold f_Model_copies
  simp only [lt, show cI 80 = 79 from rfl, m_place hn', m_day, if_pos c1, if_pos c2, Option.bind_some, e, if_neg (show ¬ (x' : Int) < 0 by omega), if_pos c3.2, m_copiesAt hs' h' hw t d (show x' ≤ w by omega)]
  rfl
theorem m_copies_f (hn : mg M 79 1 = (n : Int)) (h : CMw w wc wd wt M) {t d x : Int} (hc : ¬ cCp n w t d x) : f_Model_copies M 80 t d x = some (-1, mp M 79 0 0) := by
  have hn' : mg (mp M 79 0 0) 79 1 = (n : Int) := by simp [mg_mp, hn]
  have h' : CMw w wc wd wt (mp M 79 0 0) := CMw_fr h (Fr_mp (W := fun c k => c = 79 ∧ k = 0) ⟨rfl, rfl⟩) (fun c k e => by omega)
  have e : mg (mp M 79 0 0) 79 24 = (w : Int) := h'.1
  unfold f_Model_copies
  by_cases c1 : t = -1 ∨ t = -2 ∨ (0 ≤ t ∧ t < (n : Int))
  · by_cases c2 : 0 ≤ d ∧ d ≤ 999
    · by_cases c3 : x < 0
      · simp only [lt, show cI 80 = 79 from rfl, m_place hn', m_day, if_pos c1, if_pos c2, Option.bind_some, if_pos c3]
        rfl
      · have c4 : ¬ x ≤ (w : Int) := fun c4 => hc ⟨c1, c2, by omega, c4⟩
        simp only [lt, show cI 80 = 79 from rfl, m_place hn', m_day, if_pos c1, if_pos c2, Option.bind_some, if_neg c3, e, if_neg c4]
        rfl
    · simp only [lt, show cI 80 = 79 from rfl, m_place hn', m_day, if_pos c1, if_neg c2, Option.bind_some]
      rfl
  · simp only [lt, show cI 80 = 79 from rfl, m_place hn', if_neg c1, Option.bind_some]
    rfl
end TE
/-! the TAPE: how many bytes, which -/
def OKt (tl : Nat) (tb : Nat → Int) : Prop := tl ≤ 800 ∧ ∀ j, 0 ≤ tb j ∧ tb j ≤ 255
def CBt (tl : Nat) (tb : Nat → Int) (M : Mm) : Prop := mg M 48 1 = (tl : Int) ∧ ∀ j, j < tl → mg M 49 j = tb j
def CMt (tl : Nat) (tb : Nat → Int) (M : Mm) : Prop := mg M 79 29 = (tl : Int) ∧ ∀ j, j < tl → mg M 102 j = tb j
theorem CBt_fr {tl : Nat} {tb : Nat → Int} {W : Nat → Nat → Prop} {M M' : Mm} (h : CBt tl tb M) (f : Fr W M M') (hw : ∀ c k, W c k → ¬ (c = 48 ∧ k = 1) ∧ c ≠ 49) : CBt tl tb M' := by
  unfold CBt at h ⊢
  rw [f.1 48 1 (fun w => (hw _ _ w).1 ⟨rfl, rfl⟩)]
  exact ⟨h.1, fun j hj => (f.1 49 j (fun w => (hw _ _ w).2 rfl)).trans (h.2 j hj)⟩
theorem CMt_fr {tl : Nat} {tb : Nat → Int} {W : Nat → Nat → Prop} {M M' : Mm} (h : CMt tl tb M) (f : Fr W M M') (hw : ∀ c k, W c k → ¬ (c = 79 ∧ k = 29) ∧ c ≠ 102) : CMt tl tb M' := by
  unfold CMt at h ⊢
  rw [f.1 79 29 (fun w => (hw _ _ w).1 ⟨rfl, rfl⟩)]
  exact ⟨h.1, fun j hj => (f.1 102 j (fun w => (hw _ _ w).2 rfl)).trans (h.2 j hj)⟩
/-- a byte of an int -/
noncomputable def byt (a : Int) (i : Nat) : Int := bAnd (bShr a (24 - 8 * (i : Int))) 255
theorem and255 (x : Int) : 0 ≤ bAnd x 255 ∧ bAnd x 255 ≤ 255 := by
  rw [bAnd_d]
  have h : (Int32.ofInt x &&& Int32.ofInt 255).toBitVec.toNat ≤ 255 := by
    rw [Int32.toBitVec_and, BitVec.toNat_and]
    exact Nat.and_le_right
  rw [int_of_bv rfl (by omega)]
  omega
theorem byt_u (a : Int) {i : Nat} (hi : i < 4) : bAnd (bUshr a (24 - 8 * (i : Int))) 255 = byt a i := by
  unfold byt
  rw [bAnd_d, bAnd_d, bUshr_d, bShr_d, i32_of, i32_of]
  congr 1
  apply Int32.toBitVec_inj.mp
  rw [Int32.toBitVec_and, Int32.toBitVec_and, Int32.toBitVec_shiftRight]
  apply BitVec.eq_of_getLsbD_eq
  intro k hk
  have h255 : ∀ k, k < 32 → (Int32.ofInt 255).toBitVec.getLsbD k = decide (k < 8) := by decide
  rw [BitVec.getLsbD_and, BitVec.getLsbD_and, h255 k hk]
  by_cases h8 : k < 8
  · match i, hi with
    | 0, _ =>
      simp [h8]
      rw [BitVec.getLsbD_sshiftRight, if_pos (show 24 + k < 32 by omega)]
      simp [show ¬ 32 ≤ k by omega]
    | 1, _ =>
      simp [h8]
      rw [BitVec.getLsbD_sshiftRight, if_pos (show 16 + k < 32 by omega)]
      simp [show ¬ 32 ≤ k by omega]
    | 2, _ =>
      simp [h8]
      rw [BitVec.getLsbD_sshiftRight, if_pos (show 8 + k < 32 by omega)]
      simp [show ¬ 32 ≤ k by omega]
    | 3, _ => simp [h8]
  · simp [h8]
/-- the TAPE with an int behind it -/
noncomputable def apT (tb : Nat → Int) (tl : Nat) (a : Int) : Nat → Int := fun j => if j < tl then tb j else byt a (j - tl)
theorem apT_ok {tl : Nat} {tb : Nat → Int} (h : OKt tl tb) (a : Int) (hl : tl + 4 ≤ 800) : OKt (tl + 4) (apT tb tl a) := ⟨hl, fun j => by
  unfold apT; split
  · exact h.2 j
  · exact and255 _⟩
def WTa (c k : Nat) : Prop := (c = 48 ∧ k = 1) ∨ c = 49
def WMt (c k : Nat) : Prop := (c = 79 ∧ (k = 0 ∨ k = 29)) ∨ c = 102
section TA
variable {tl : Nat} {tb : Nat → Int} {M : Mm}
theorem b_append (hs : Sh M) (h : CBt tl tb M) (a : Int) (hl : tl + 4 ≤ 800) : wp (f_Tape_append M 49 a) (fun M' => CBt (tl + 4) (apT tb tl a) M' ∧ Fr WTa M M') := by
  unfold f_Tape_append
  refine wB (wM (wp_loop (fun j s => s.1 = 24 - 8 * (j : Int) ∧ CBt (tl + j) (apT tb tl a) s.2 ∧ Fr WTa M s.2) 4 (by decide) ⟨rfl, ⟨h.1, fun j hj => ?_⟩, Fr_rf⟩ ?_) (fun m hm => wS hm))
  · have hj : j < tl := hj
    unfold apT; rw [if_pos hj]; exact h.2 j hj
  intro j s hj hI
  obtain ⟨i, m⟩ := s
  obtain ⟨hi, hk, hf⟩ := hI
  simp only at hi hf hk; subst hi
  have hsm : Sh m := Sh_fr hs hf (fun c k e => by unfold WTa at e; unfold isP; omega)
  have hk1 := hk.1
  unfold l_Tape_append_3
  refine wC (fun hc => ?_) (fun hc => ?_)
  · have : j = 4 := by omega
    subst this; exact wSr ⟨hk, hf⟩
  have hj4 : j < 4 := by omega
  have g1 : ((tl + j : Nat) : Int) < 800 := by omega
  have g2 : ¬ (800 : Int) ≤ ((tl + j : Nat) : Int) := by omega
  have e1 : w32 (((tl + j : Nat) : Int) + 1) = ((tl + (j + 1) : Nat) : Int) := by rw [w32_s (by omega) (by omega)]; omega
  have e2 : w32 (24 - 8 * (j : Int) + -8) = 24 - 8 * ((j + 1 : Nat) : Int) := by rw [w32_s (by omega) (by omega)]; omega
  have hq := hk.2
  refine eq_l (24 - 8 * ((j + 1 : Nat) : Int), mp (mp m 49 (tl + j) (byt a j)) 48 1 ((tl + (j + 1) : Nat) : Int)) ?_ ⟨hj4, rfl, ⟨?_, fun q hq' => ?_⟩, Fr_wr (Fr_wr hf (Or.inr rfl)) (Or.inl ⟨rfl, rfl⟩)⟩
  · generalize hz : ((tl + j : Nat) : Int) = z at *
    have ez : z.toNat = tl + j := by omega
    have g0 : (0 : Int) ≤ z := by omega
    simp only [cI, lt, show ((49 : Int) - 1).toNat = 48 from rfl, hk1, p_48_0 hsm, show ((50 : Int) - 1).toNat = 49 from rfl, n_49 hsm, mg_mp, ez, byt_u a hj4]
    simp [g2, g0, g1, e2, hk1, e1]
  · simp [mg_mp]
  · simp only [mg_mp]
    by_cases e : q = tl + j
    · subst e
      simp [apT, show ¬ tl + j < tl by omega]
    · have := hq q (by omega)
      simp [e, this]
theorem m_lay (hs : Sh M) (h : CMt tl tb M) (a : Int) (hl : tl + 4 ≤ 800) : wp (f_Model_lay M 80 a) (fun M' => CMt (tl + 4) (apT tb tl a) M' ∧ Fr WMt M M') := by
  unfold f_Model_lay
  refine wB (wM (wp_loop (fun j s => s.1 = 24 - 8 * (j : Int) ∧ CMt (tl + j) (apT tb tl a) s.2 ∧ Fr WMt M s.2) 4 (by decide) ⟨rfl, ⟨h.1, fun j hj => ?_⟩, Fr_rf⟩ ?_) (fun m hm => wS hm))
  · have hj : j < tl := hj
    unfold apT; rw [if_pos hj]; exact h.2 j hj
  intro j s hj hI
  obtain ⟨i, m⟩ := s
  obtain ⟨hi, hk, hf⟩ := hI
  simp only at hi hf hk; subst hi
  have hsm : Sh m := Sh_fr hs hf (fun c k e => by unfold WMt at e; unfold isP; omega)
  have hk1 := hk.1
  unfold l_Model_lay_3
  refine wC (fun hc => ?_) (fun hc => ?_)
  · have : j = 4 := by omega
    subst this; exact wSr ⟨hk, hf⟩
  have hj4 : j < 4 := by omega
  have g1 : ((tl + j : Nat) : Int) < 800 := by omega
  have e1 : w32 (((tl + j : Nat) : Int) + 1) = ((tl + (j + 1) : Nat) : Int) := by rw [w32_s (by omega) (by omega)]; omega
  have e2 : w32 (24 - 8 * (j : Int) + -8) = 24 - 8 * ((j + 1 : Nat) : Int) := by rw [w32_s (by omega) (by omega)]; omega
  have hq := hk.2
  refine eq_l (24 - 8 * ((j + 1 : Nat) : Int), mp (mp m 102 (tl + j) (byt a j)) 79 29 ((tl + (j + 1) : Nat) : Int)) ?_ ⟨hj4, rfl, ⟨?_, fun q hq' => ?_⟩, Fr_wr (Fr_wr hf (Or.inr rfl)) (Or.inl ⟨rfl, Or.inr rfl⟩)⟩
  · generalize hz : ((tl + j : Nat) : Int) = z at *
    have ez : z.toNat = tl + j := by omega
    have g0 : (0 : Int) ≤ z := by omega
    simp only [cI, lt, show ((80 : Int) - 1).toNat = 79 from rfl, hk1, p_79_28 hsm, show ((103 : Int) - 1).toNat = 102 from rfl, n_102 hsm, mg_mp, ez]
    simp [g0, g1, e2, hk1, e1, byt]
  · simp [mg_mp]
  · simp only [mg_mp]
    by_cases e : q = tl + j
    · subst e
      simp [apT, show ¬ tl + j < tl by omega]
    · have := hq q (by omega)
      simp [e, this]
/-- the TAPE with five ints behind it -/
noncomputable def ap5 (tb : Nat → Int) (tl : Nat) (a b c d e : Int) : Nat → Int := apT (apT (apT (apT (apT tb tl a) (tl + 4) b) (tl + 4 + 4) c) (tl + 4 + 4 + 4) d) (tl + 4 + 4 + 4 + 4) e
theorem ap5_ok (h : OKt tl tb) (a b c d e : Int) (hl : tl + 20 ≤ 800) : OKt (tl + 20) (ap5 tb tl a b c d e) := apT_ok (apT_ok (apT_ok (apT_ok (apT_ok h a (by omega)) b (by omega)) c (by omega)) d (by omega)) e (by omega)
theorem sh_WTa {M M' : Mm} (hs : Sh M) (hf : Fr WTa M M') : Sh M' := Sh_fr hs hf (fun c k e => by unfold WTa at e; unfold isP; omega)
theorem sh_WMt {M M' : Mm} (hs : Sh M) (hf : Fr WMt M M') : Sh M' := Sh_fr hs hf (fun c k e => by unfold WMt at e; unfold isP; omega)
theorem b_feed_t (hs : Sh M) (h : CBt tl tb M) (a b c d e : Int) (hl : tl + 20 ≤ 800) : wp (f_Band_feed M 1 a b c d e) (fun q => q.1 = ((tl + 20 : Nat) : Int) ∧ CBt (tl + 20) (ap5 tb tl a b c d e) q.2 ∧ Fr WTa M q.2) := by
  unfold f_Band_feed f_Tape_hasRoom
  rw [show mg M (cI 1) 2 = 49 from p_0_2 hs, show mg M (cI 49) 1 = (tl : Int) from h.1, w32_s (by omega) (by omega)]
  refine wI (by decide) (wB (wE (by omega) (wS (wI (by decide) ?_))))
  refine wK (b_append hs h a (by omega)) (fun M1 ⟨h1, f1⟩ => ?_)
  have s1 := sh_WTa hs f1
  rw [show mg M1 (cI 1) 2 = 49 from p_0_2 s1]
  refine wI (by decide) (wK (b_append s1 h1 b (by omega)) (fun M2 ⟨h2, f2⟩ => ?_))
  have s2 := sh_WTa s1 f2
  rw [show mg M2 (cI 1) 2 = 49 from p_0_2 s2]
  refine wI (by decide) (wK (b_append s2 h2 c (by omega)) (fun M3 ⟨h3, f3⟩ => ?_))
  have s3 := sh_WTa s2 f3
  rw [show mg M3 (cI 1) 2 = 49 from p_0_2 s3]
  refine wI (by decide) (wK (b_append s3 h3 d (by omega)) (fun M4 ⟨h4, f4⟩ => ?_))
  have s4 := sh_WTa s3 f4
  rw [show mg M4 (cI 1) 2 = 49 from p_0_2 s4]
  refine wI (by decide) (wK (b_append s4 h4 e (by omega)) (fun M5 ⟨h5, f5⟩ => ?_))
  have s5 := sh_WTa s4 f5
  rw [show mg M5 (cI 1) 2 = 49 from p_0_2 s5]
  exact wI (by decide) (wS ⟨h5.1, h5, Fr_tr (Fr_tr (Fr_tr (Fr_tr f1 f2) f3) f4) f5⟩)
theorem b_feed_f (hs : Sh M) (h : CBt tl tb M) (ho : tl ≤ 800) (a b c d e : Int) (hl : ¬ tl + 20 ≤ 800) : f_Band_feed M 1 a b c d e = some (-1, M) := by
  unfold f_Band_feed f_Tape_hasRoom
  rw [show mg M (cI 1) 2 = 49 from p_0_2 hs, show mg M (cI 49) 1 = (tl : Int) from h.1, w32_s (by omega) (by omega), if_pos (by decide), if_pos (by omega)]
  rfl
theorem m_feed_t (hs : Sh M) (h : CMt tl tb M) (a b c d e : Int) (hl : tl + 20 ≤ 800) : wp (f_Model_feed M 80 a b c d e) (fun q => q.1 = ((tl + 20 : Nat) : Int) ∧ CMt (tl + 20) (ap5 tb tl a b c d e) q.2 ∧ Fr WMt M q.2) := by
  have f0 : Fr WMt M (mp M 79 0 0) := Fr_mp (by unfold WMt; omega)
  have s0 := sh_WMt hs f0
  have h0 : CMt tl tb (mp M 79 0 0) := CMt_fr h (Fr_mp (W := fun c k => c = 79 ∧ k = 0) ⟨rfl, rfl⟩) (fun c k e => by omega)
  unfold f_Model_feed
  refine wL ?_
  rw [show mg (mp M (cI 80) 0 0) (cI 80) 29 = (tl : Int) from h0.1, w32_s (by omega) (by omega)]
  refine wI (by omega) ?_
  refine wK (m_lay s0 h0 a (by omega)) (fun M1 ⟨h1, f1⟩ => ?_)
  have s1 := sh_WMt s0 f1
  refine wK (m_lay s1 h1 b (by omega)) (fun M2 ⟨h2, f2⟩ => ?_)
  have s2 := sh_WMt s1 f2
  refine wK (m_lay s2 h2 c (by omega)) (fun M3 ⟨h3, f3⟩ => ?_)
  have s3 := sh_WMt s2 f3
  refine wK (m_lay s3 h3 d (by omega)) (fun M4 ⟨h4, f4⟩ => ?_)
  have s4 := sh_WMt s3 f4
  refine wK (m_lay s4 h4 e (by omega)) (fun M5 ⟨h5, f5⟩ => ?_)
  exact wS ⟨h5.1, h5, Fr_tr f0 (Fr_tr (Fr_tr (Fr_tr (Fr_tr f1 f2) f3) f4) f5)⟩
theorem m_feed_f (h : CMt tl tb M) (ho : tl ≤ 800) (a b c d e : Int) (hl : ¬ tl + 20 ≤ 800) : f_Model_feed M 80 a b c d e = some (-1, mp M 79 0 0) := by
  unfold f_Model_feed
  simp only [lt]
  rw [show mg (mp M (cI 80) 0 0) (cI 80) 29 = (tl : Int) by simp [cI, mg_mp, h.1], w32_s (by omega) (by omega), if_neg (by omega)]
  rfl
theorem b_end (hs : Sh M) (h : CBt tl tb M) (x : Int) : f_Band_end M 1 x = some (if 0 ≤ x ∧ x ≤ (tl : Int) then (x, mp M 48 1 x) else (-1, M)) := by
  unfold f_Band_end
  rw [show mg M (cI 1) 2 = 49 from p_0_2 hs, show mg M (cI 49) 1 = (tl : Int) from h.1, q_within]
  by_cases c : 0 ≤ x ∧ x ≤ (tl : Int)
  · rw [if_pos c, if_pos c]; rfl
  · rw [if_neg c, if_neg c]; rfl
theorem m_end (h : CMt tl tb M) (x : Int) : f_Model_end M 80 x = some (if 0 ≤ x ∧ x ≤ (tl : Int) then (x, mp (mp M 79 0 0) 79 29 x) else (-1, mp M 79 0 0)) := by
  unfold f_Model_end
  simp only [lt]
  rw [show mg (mp M (cI 80) 0 0) (cI 80) 29 = (tl : Int) by simp [cI, mg_mp, h.1]]
  by_cases c1 : x < 0
  · rw [if_pos c1, if_neg (by omega)]; rfl
  · by_cases c2 : x ≤ (tl : Int)
    · rw [if_neg c1, if_pos c2, if_pos (by omega)]; rfl
    · rw [if_neg c1, if_neg c2, if_neg (by omega)]; rfl
/-! the FAULT -/
def CBf (fk fp : Int) (M : Mm) : Prop := mg M 48 8 = fk ∧ mg M 48 9 = fp
def CMf (fk fp : Int) (M : Mm) : Prop := mg M 79 35 = fk ∧ mg M 79 36 = fp
theorem b_fault {fk fp : Int} (hs : Sh M) (h : CBf fk fp M) (x : Int) : f_Band_fault M 1 x = some (if x = 0 then fk else if x = 1 then fp else -1) := by
  unfold f_Band_fault
  rw [show mg M (cI 1) 2 = 49 from p_0_2 hs, show mg M (cI 49) 8 = fk from h.1, show mg M (cI 49) 9 = fp from h.2]
  by_cases c1 : x = 0
  · simp [c1]
  · by_cases c2 : x = 1
    · simp [c2]
    · simp [c1, c2]
theorem m_fault {fk fp : Int} (h : CMf fk fp M) (x : Int) : f_Model_fault M 80 x = some (if x = 0 then fk else if x = 1 then fp else -1, mp M 79 0 0) := by
  unfold f_Model_fault
  simp only [lt]
  rw [show mg (mp M (cI 80) 0 0) (cI 80) 35 = fk by simp [cI, mg_mp, h.1], show mg (mp M (cI 80) 0 0) (cI 80) 36 = fp by simp [cI, mg_mp, h.2]]
  by_cases c1 : x = 0
  · simp [c1, cI]
  · by_cases c2 : x = 1
    · simp [c2, cI]
    · simp [c1, c2, cI]
end TA
