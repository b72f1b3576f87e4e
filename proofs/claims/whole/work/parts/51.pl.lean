def up {α : Type} (f : Nat → α) (k : Nat) (v : α) : Nat → α := fun j => if j = k then v else f j
def up2 {α : Type} (f : Nat → Nat → α) (i k : Nat) (v : α) : Nat → Nat → α := fun a b => if a = i ∧ b = k then v else f a b
theorem up_s {α : Type} (f : Nat → α) (k : Nat) (v : α) : up f k v k = v := by unfold up; rw [if_pos rfl]
theorem up_n {α : Type} {f : Nat → α} {k j : Nat} {v : α} (h : j ≠ k) : up f k v j = f j := by unfold up; rw [if_neg h]
/-- a whole number from 0 to n - 1 -/
theorem nat_of {a : Int} {n : Nat} (h0 : 0 ≤ a) (h : a < (n : Int)) : ∃ p : Nat, a = (p : Int) ∧ p < n := ⟨a.toNat, by omega, by omega⟩
/-! PLAYERS: how many, AGE, JOINED, CONTESTS, COSTS, HERE -/
def OKp (n : Nat) (pa : Nat → Int) (co : Nat → Nat → Int) (he : Nat → Bool) : Prop := n ≤ 14 ∧ (∀ p, 0 ≤ pa p ∧ pa p ≤ 1000) ∧ (∀ p i, -1 ≤ co p i ∧ co p i ≤ 9) ∧ ∀ p, n ≤ p → he p = false
def CBp (n : Nat) (ag jo pa : Nat → Int) (co : Nat → Nat → Int) (he : Nat → Bool) (M : Mm) : Prop := mg M 1 4 = (n : Int) ∧ (∀ p, p < n → mg M 2 p = ag p ∧ mg M 3 p = jo p) ∧ (∀ p, p < 14 → mg M 4 p = pa p) ∧ (∀ p i, p < 14 → i < 10 → mg M 5 (10 * p + i) = co p i) ∧ ∃ b : Nat, mg M 1 5 = (b : Int) ∧ b < 16384 ∧ ∀ p, b.testBit p = he p
def CMp (n : Nat) (ag jo pa : Nat → Int) (co : Nat → Nat → Int) (he : Nat → Bool) (M : Mm) : Prop := mg M 79 1 = (n : Int) ∧ (∀ p, p < n → mg M 80 p = ag p ∧ mg M 81 p = jo p) ∧ (∀ p, p < 14 → mg M 82 p = pa p) ∧ (∀ p i, p < 14 → i < 10 → mg M 84 (10 * p + i) = co p i + 1) ∧ ∀ p, p < 14 → mg M 83 p = if he p then 1 else 0
theorem CBp_fr {n : Nat} {ag jo pa : Nat → Int} {co : Nat → Nat → Int} {he : Nat → Bool} {W : Nat → Nat → Prop} {M M' : Mm} (h : CBp n ag jo pa co he M) (f : Fr W M M') (hw : ∀ c k, W c k → ¬ (1 ≤ c ∧ c ≤ 5)) : CBp n ag jo pa co he M' := by
  have e : ∀ c k, 1 ≤ c ∧ c ≤ 5 → mg M' c k = mg M c k := fun c k hc => f.1 c k (fun w => hw c k w hc)
  unfold CBp at h ⊢
  simp only [e 1 _ (by omega), e 2 _ (by omega), e 3 _ (by omega), e 4 _ (by omega), e 5 _ (by omega)]
  exact h
theorem CMp_fr {n : Nat} {ag jo pa : Nat → Int} {co : Nat → Nat → Int} {he : Nat → Bool} {W : Nat → Nat → Prop} {M M' : Mm} (h : CMp n ag jo pa co he M) (f : Fr W M M') (hw : ∀ c k, W c k → ¬ (c = 79 ∧ k = 1) ∧ ¬ (80 ≤ c ∧ c ≤ 84)) : CMp n ag jo pa co he M' := by
  have e : ∀ c k, 80 ≤ c ∧ c ≤ 84 → mg M' c k = mg M c k := fun c k hc => f.1 c k (fun w => (hw c k w).2 hc)
  have e1 : mg M' 79 1 = mg M 79 1 := f.1 79 1 (fun w => (hw 79 1 w).1 ⟨rfl, rfl⟩)
  unfold CMp at h ⊢
  simp only [e1, e 80 _ (by omega), e 81 _ (by omega), e 82 _ (by omega), e 83 _ (by omega), e 84 _ (by omega)]
  exact h
/-! small questions -/
theorem q_within (M : Mm) (a b c : Int) : f_Band_isWithin M a b c = some (if b ≤ a ∧ a ≤ c then 1 else 0) := by
  unfold f_Band_isWithin
  by_cases h1 : a < b
  · rw [if_pos h1, if_neg (by omega)]
  · rw [if_neg h1]
    by_cases h2 : c < a
    · rw [if_pos h2, if_neg (by omega)]
    · rw [if_neg h2, if_pos (by omega)]
theorem q_day (M : Mm) (a : Int) : f_Band_isDay M a = some (if 0 ≤ a ∧ a ≤ 999 then 1 else 0) := by
  unfold f_Band_isDay; rw [q_within]; rfl
theorem q_instr (M : Mm) (a : Int) : f_Band_isInstrument M a = some (if 0 ≤ a ∧ a ≤ 9 then 1 else 0) := by
  unfold f_Band_isInstrument; rw [q_within]; rfl
theorem q_copy (M : Mm) (a : Int) : f_Band_isCopy M a = some (if 0 ≤ a ∧ a ≤ 29 then 1 else 0) := by
  unfold f_Band_isCopy; rw [q_within]; rfl
theorem m_day (M : Mm) (x a : Int) : f_Model_isDay M x a = some (if 0 ≤ a ∧ a ≤ 999 then 1 else 0) := by
  unfold f_Model_isDay
  by_cases h1 : a < 0
  · rw [if_pos h1, if_neg (by omega)]
  · rw [if_neg h1]
    by_cases h2 : 999 < a
    · rw [if_pos h2, if_neg (by omega)]
    · rw [if_neg h2, if_pos (by omega)]
theorem m_instr (M : Mm) (x a : Int) : f_Model_isInstrument M x a = some (if 0 ≤ a ∧ a ≤ 9 then 1 else 0) := by
  unfold f_Model_isInstrument
  by_cases h1 : a < 0
  · rw [if_pos h1, if_neg (by omega)]
  · rw [if_neg h1]
    by_cases h2 : 10 ≤ a
    · rw [if_pos h2, if_neg (by omega)]
    · rw [if_neg h2, if_pos (by omega)]
theorem q_has_n {M : Mm} {n : Nat} (h : mg M 1 4 = (n : Int)) (a : Int) : f_Players_has M 2 a = some (if 0 ≤ a ∧ a < (n : Int) then 1 else 0) := by
  unfold f_Players_has
  have e : mg M (cI 2) 4 = (n : Int) := h
  rw [e]
  by_cases h1 : a < 0
  · rw [if_pos h1, if_neg (by omega)]
  · rw [if_neg h1]
    by_cases h2 : (n : Int) ≤ a
    · rw [if_pos h2, if_neg (by omega)]
    · rw [if_neg h2, if_pos (by omega)]
theorem m_has_n {M : Mm} {n : Nat} (h : mg M 79 1 = (n : Int)) (a : Int) : f_Model_isPlayer M 80 a = some (if 0 ≤ a ∧ a < (n : Int) then 1 else 0) := by
  unfold f_Model_isPlayer
  have e : mg M (cI 80) 1 = (n : Int) := h
  rw [e]
  by_cases h1 : a < 0
  · rw [if_pos h1, if_neg (by omega)]
  · rw [if_neg h1]
    by_cases h2 : (n : Int) ≤ a
    · rw [if_pos h2, if_neg (by omega)]
    · rw [if_neg h2, if_pos (by omega)]
section PL
variable {n : Nat} {ag jo pa : Nat → Int} {co : Nat → Nat → Int} {he : Nat → Bool} {M : Mm}
theorem q_cost (hs : Sh M) (h : CBp n ag jo pa co he M) {p i : Nat} (hp : p < 14) (hi : i < 10) : f_Players_costOf M 2 (p : Int) (i : Int) = some (co p i) := by
  unfold f_Players_costOf
  have e : mg M (cI 2) 3 = 6 := p_1_3 hs
  have e3 : ml M (cI 6) = 140 := n_5 hs
  rw [e, w32_s (x := (p : Int) * 10) (by omega) (by omega), w32_s (by omega) (by omega), e3, if_pos (by decide), if_pos (by omega)]
  have e4 : ((p : Int) * 10 + (i : Int)).toNat = 10 * p + i := by omega
  rw [e4]
  exact congrArg some (h.2.2.2.1 p i hp hi)
theorem q_pres (h : CBp n ag jo pa co he M) {p : Nat} (hp : p < 32) : f_Players_isPresent M 2 (p : Int) = some (if he p then 1 else 0) := by
  unfold f_Players_isPresent
  obtain ⟨b, e, hb, ht⟩ := h.2.2.2.2
  have e : mg M (cI 2) 5 = (b : Int) := e
  rw [e, bit_n (by omega) hp, ht p]
  cases he p <;> rfl
/-! player -/
def WPl (c k : Nat) : Prop := (c = 1 ∧ 4 ≤ k) ∨ (2 ≤ c ∧ c ≤ 5)
theorem b_player_t (hs : Sh M) (h : CBp n ag jo pa co he M) {a d : Int} (ha : 0 ≤ a ∧ a ≤ 99) (hd : 0 ≤ d ∧ d ≤ 999) (hn : n < 14) : wp (f_Band_player M 1 a d) (fun q => q.1 = (n : Int) ∧ CBp (n + 1) (up ag n a) (up jo n d) pa co he q.2 ∧ Fr WPl M q.2) := by
  obtain ⟨h1, h2, h3, h4, b, h5, h6, h7⟩ := h
  have hn2 : (n : Int) < 14 := by omega
  obtain ⟨e1, e2⟩ : w32 ((n : Int) + 1) = (n : Int) + 1 ∧ w32 (n : Int) = (n : Int) := ⟨w32_s (by omega) (by omega), w32_s (by omega) (by omega)⟩
  refine eq_w (a := ((n : Int), mp (mp (mp M 2 n a) 3 n d) 1 4 ((n : Int) + 1))) ?_ ⟨rfl, ?_, ?_⟩
  · unfold f_Band_player f_Players_join
    simp [q_within, q_day, ha, hd, lt, cI, mg_mp, ml_mp, h1, p_0_0 hs, p_1_0 hs, p_1_1 hs, n_2 hs, n_3 hs, e1, e2, Int.add_sub_cancel, hn2]
  · refine ⟨by simp [mg_mp], fun p hp => ?_, fun p hp => by simp [mg_mp]; exact h3 p hp, fun p i hp hi => by simp [mg_mp]; exact h4 p i hp hi, b, by simp [mg_mp, h5], h6, h7⟩
    simp only [mg_mp, up]
    by_cases e : p = n
    · simp [e]
    · have := h2 p (by omega)
      simp [e, this.1, this.2]
  · exact Fr_wr (Fr_wr (Fr_mp (by unfold WPl; omega)) (by unfold WPl; omega)) (by unfold WPl; omega)
theorem b_player_f (hs : Sh M) (h : CBp n ag jo pa co he M) {a d : Int} (hc : ¬ ((0 ≤ a ∧ a ≤ 99) ∧ (0 ≤ d ∧ d ≤ 999) ∧ n < 14)) : f_Band_player M 1 a d = some (-1, M) := by
  unfold f_Band_player
  by_cases c1 : 0 ≤ a ∧ a ≤ 99
  · by_cases c2 : 0 ≤ d ∧ d ≤ 999
    · have c4 : ¬ (n : Int) < 14 := by omega
      have ej : f_Players_join M 2 a d = some (-1, M) := by
        unfold f_Players_join
        rw [show mg M (cI 2) 4 = (n : Int) from h.1, if_neg c4]
      simp [q_within, q_day, c1, c2, cI, p_0_0 hs, ej]
    · simp [q_within, q_day, c1, c2]
  · simp [q_within, c1]
def WMp (c k : Nat) : Prop := (c = 79 ∧ k ≤ 1) ∨ (80 ≤ c ∧ c ≤ 84)
theorem m_player_t (hs : Sh M) (h : CMp n ag jo pa co he M) {a d : Int} (ha : 0 ≤ a ∧ a ≤ 99) (hd : 0 ≤ d ∧ d ≤ 999) (hn : n < 14) : wp (f_Model_player M 80 a d) (fun q => q.1 = (n : Int) ∧ CMp (n + 1) (up ag n a) (up jo n d) pa co he q.2 ∧ Fr WMp M q.2) := by
  obtain ⟨h1, h2, h3, h4, h5⟩ := h
  have hn2 : (n : Int) < 14 := by omega
  obtain ⟨e1, e2⟩ : w32 ((n : Int) + 1) = (n : Int) + 1 ∧ w32 (n : Int) = (n : Int) := ⟨w32_s (by omega) (by omega), w32_s (by omega) (by omega)⟩
  refine eq_w (a := ((n : Int), mp (mp (mp (mp M 79 0 0) 80 n a) 81 n d) 79 1 ((n : Int) + 1))) ?_ ⟨rfl, ?_, ?_⟩
  · unfold f_Model_player
    have g1 : ¬ a < 0 := by omega
    have g2 : ¬ 99 < a := by omega
    have g3 : ¬ d < 0 := by omega
    have g4 : ¬ 999 < d := by omega
    have g5 : ¬ (n : Int) = 14 := by omega
    simp [g1, g2, g3, g4, g5, lt, cI, mg_mp, ml_mp, h1, p_79_2 hs, p_79_3 hs, n_80 hs, n_81 hs, e1, e2, Int.add_sub_cancel, hn2]
  · refine ⟨by simp [mg_mp], fun p hp => ?_, fun p hp => by simp [mg_mp]; exact h3 p hp, fun p i hp hi => by simp [mg_mp]; exact h4 p i hp hi, fun p hp => by simp [mg_mp]; exact h5 p hp⟩
    simp only [mg_mp, up]
    by_cases e : p = n
    · simp [e]
    · have := h2 p (by omega)
      simp [e, this.1, this.2]
  · exact Fr_wr (Fr_wr (Fr_wr (Fr_mp (by unfold WMp; omega)) (by unfold WMp; omega)) (by unfold WMp; omega)) (by unfold WMp; omega)
theorem m_player_f (h : CMp n ag jo pa co he M) {a d : Int} (hk : n ≤ 14) (hc : ¬ ((0 ≤ a ∧ a ≤ 99) ∧ (0 ≤ d ∧ d ≤ 999) ∧ n < 14)) : f_Model_player M 80 a d = some (-1, mp M 79 0 0) := by
  unfold f_Model_player
  by_cases c1 : a < 0
  · simp [lt, cI, c1]
  by_cases c2 : 99 < a
  · simp [lt, cI, c1, c2]
  by_cases c3 : d < 0
  · simp [lt, cI, c1, c2, c3]
  by_cases c4 : 999 < d
  · simp [lt, cI, c1, c2, c3, c4]
  have c5 : n = 14 := by omega
  simp [lt, cI, c1, c2, c3, c4, mg_mp, h.1, c5]
/-! plays, cost, here, contest -/
theorem b_plays_t (hs : Sh M) (h : CBp n ag jo pa co he M) (hk : n ≤ 14) {p i : Nat} {c : Int} (hp : p < n) (hi : i < 10) (hc : -1 ≤ c ∧ c ≤ 9) : wp (f_Band_plays M 1 p i c) (fun q => q.1 = 1 ∧ CBp n ag jo pa (up2 co p i c) he q.2 ∧ Fr WPl M q.2) := by
  obtain ⟨h1, h2, h3, h4, b, h5, h6, h7⟩ := h
  refine eq_w (a := (1, mp M 5 (10 * p + i) c)) ?_ ⟨rfl, ?_, Fr_mp (by unfold WPl; omega)⟩
  · obtain ⟨e1, e2⟩ : w32 ((p : Int) * 10) = (p : Int) * 10 ∧ w32 ((p : Int) * 10 + (i : Int)) = (p : Int) * 10 + i := ⟨w32_s (by omega) (by omega), w32_s (by omega) (by omega)⟩
    have g1 : (0 : Int) ≤ (p : Int) * 10 + i ∧ (p : Int) * 10 + i < 140 := by omega
    have g2 : ((p : Int) * 10 + i).toNat = 10 * p + i := by omega
    have g3 : (0 : Int) ≤ p ∧ (p : Int) < n := by omega
    have g4 : (0 : Int) ≤ i ∧ (i : Int) ≤ 9 := by omega
    unfold f_Band_plays f_Players_learn
    simp [q_within, q_instr, q_has_n h1, g3, g4, hc, lt, cI, p_0_0 hs, p_1_3 hs, n_5 hs, e1, e2, g1, g2]
  · refine ⟨by simp [mg_mp, h1], fun p hp => by simp [mg_mp]; exact h2 p hp, fun p hp => by simp [mg_mp]; exact h3 p hp, fun p' i' hp' hi' => ?_, b, by simp [mg_mp, h5], h6, h7⟩
    simp only [mg_mp, up2]
    by_cases e : p' = p ∧ i' = i
    · simp [e]
    · rw [if_neg e, if_neg (by omega)]; exact h4 p' i' hp' hi'
theorem b_plays_f (hs : Sh M) (h : CBp n ag jo pa co he M) {p i c : Int} (hc : ¬ ((0 ≤ p ∧ p < (n : Int)) ∧ (0 ≤ i ∧ i ≤ 9) ∧ (-1 ≤ c ∧ c ≤ 9))) : f_Band_plays M 1 p i c = some (0, M) := by
  unfold f_Band_plays
  by_cases c1 : 0 ≤ p ∧ p < (n : Int)
  · by_cases c2 : 0 ≤ i ∧ i ≤ 9
    · have c3 : ¬ (-1 ≤ c ∧ c ≤ 9) := fun c3 => hc ⟨c1, c2, c3⟩
      simp [q_within, q_instr, q_has_n h.1, c1, c2, c3, cI, p_0_0 hs]
    · simp [q_instr, q_has_n h.1, c1, c2, cI, p_0_0 hs]
  · simp [q_has_n h.1, c1, cI, p_0_0 hs]
theorem m_plays_t (hs : Sh M) (h : CMp n ag jo pa co he M) (hk : n ≤ 14) {p i : Nat} {c : Int} (hp : p < n) (hi : i < 10) (hc : -1 ≤ c ∧ c ≤ 9) : wp (f_Model_plays M 80 p i c) (fun q => q.1 = 1 ∧ CMp n ag jo pa (up2 co p i c) he q.2 ∧ Fr WMp M q.2) := by
  obtain ⟨h1, h2, h3, h4, h5⟩ := h
  refine eq_w (a := (1, mp (mp M 79 0 0) 84 (10 * p + i) (c + 1))) ?_ ⟨rfl, ?_, Fr_wr (Fr_mp (by unfold WMp; omega)) (by unfold WMp; omega)⟩
  · obtain ⟨e1, e2, e3⟩ : w32 (10 * (p : Int)) = 10 * (p : Int) ∧ w32 (10 * (p : Int) + (i : Int)) = 10 * (p : Int) + i ∧ w32 (c + 1) = c + 1 := ⟨w32_s (by omega) (by omega), w32_s (by omega) (by omega), w32_s (by omega) (by omega)⟩
    have g1 : (0 : Int) ≤ 10 * (p : Int) + i ∧ 10 * (p : Int) + i < 140 := by omega
    have g2 : (10 * (p : Int) + i).toNat = 10 * p + i := by omega
    have g3 : (0 : Int) ≤ p ∧ (p : Int) < n := by omega
    have g4 : (0 : Int) ≤ i ∧ (i : Int) ≤ 9 := by omega
    have g5 : ¬ c < -1 := by omega
    have h1' : mg (mp M 79 0 0) 79 1 = (n : Int) := by simp [mg_mp, h1]
    unfold f_Model_plays
    simp [m_instr, m_has_n h1', g3, g4, hc, g5, lt, cI, mg_mp, ml_mp, p_79_6 hs, n_84 hs, e1, e2, e3, g1, g2]
  · refine ⟨by simp [mg_mp, h1], fun p hp => by simp [mg_mp]; exact h2 p hp, fun p hp => by simp [mg_mp]; exact h3 p hp, fun p' i' hp' hi' => ?_, fun p hp => by simp [mg_mp]; exact h5 p hp⟩
    simp only [mg_mp, up2]
    by_cases e : p' = p ∧ i' = i
    · simp [e]
    · rw [if_neg e, if_neg (by omega), if_neg (by omega)]; exact h4 p' i' hp' hi'
theorem m_plays_f (h : CMp n ag jo pa co he M) {p i c : Int} (hc : ¬ ((0 ≤ p ∧ p < (n : Int)) ∧ (0 ≤ i ∧ i ≤ 9) ∧ (-1 ≤ c ∧ c ≤ 9))) : f_Model_plays M 80 p i c = some (0, mp M 79 0 0) := by
  have h1' : mg (mp M 79 0 0) 79 1 = (n : Int) := by simp [mg_mp, h.1]
  unfold f_Model_plays
  by_cases c1 : 0 ≤ p ∧ p < (n : Int)
  · by_cases c2 : 0 ≤ i ∧ i ≤ 9
    · by_cases c3 : c < -1
      · simp [m_instr, m_has_n h1', c1, c2, c3, lt, cI]
      · have c4 : ¬ c ≤ 9 := by omega
        simp [m_instr, m_has_n h1', c1, c2, c3, c4, lt, cI]
    · simp [m_instr, m_has_n h1', c1, c2, lt, cI]
  · simp [m_has_n h1', c1, lt, cI]
theorem b_cost (hs : Sh M) (h : CBp n ag jo pa co he M) (hk : n ≤ 14) (p i : Int) : f_Band_cost M 1 p i = some (if (0 ≤ p ∧ p < (n : Int)) ∧ (0 ≤ i ∧ i ≤ 9) then co p.toNat i.toNat else -1) := by
  unfold f_Band_cost
  by_cases c1 : 0 ≤ p ∧ p < (n : Int)
  · by_cases c2 : 0 ≤ i ∧ i ≤ 9
    · obtain ⟨p', rfl, hp'⟩ := nat_of c1.1 c1.2
      obtain ⟨i', rfl, hi'⟩ := nat_of (n := 10) c2.1 (by omega)
      simp [q_instr, q_has_n h.1, c1, c2, cI, p_0_0 hs, q_cost hs h (show p' < 14 by omega) hi']
    · simp [q_instr, q_has_n h.1, c1, c2, cI, p_0_0 hs]
  · simp [q_has_n h.1, c1, cI, p_0_0 hs]
theorem m_cost (hs : Sh M) (h : CMp n ag jo pa co he M) (hk : n ≤ 14) (hb : ∀ p i, -1 ≤ co p i ∧ co p i ≤ 9) (p i : Int) : f_Model_cost M 80 p i = some (if (0 ≤ p ∧ p < (n : Int)) ∧ (0 ≤ i ∧ i ≤ 9) then co p.toNat i.toNat else -1, mp M 79 0 0) := by
  have h1' : mg (mp M 79 0 0) 79 1 = (n : Int) := by simp [mg_mp, h.1]
  unfold f_Model_cost
  by_cases c1 : 0 ≤ p ∧ p < (n : Int)
  · by_cases c2 : 0 ≤ i ∧ i ≤ 9
    · obtain ⟨p', rfl, hp'⟩ := nat_of c1.1 c1.2
      obtain ⟨i', rfl, hi'⟩ := nat_of (n := 10) c2.1 (by omega)
      obtain ⟨e1, e2⟩ : w32 (10 * (p' : Int)) = 10 * (p' : Int) ∧ w32 (10 * (p' : Int) + (i' : Int)) = 10 * (p' : Int) + i' := ⟨w32_s (by omega) (by omega), w32_s (by omega) (by omega)⟩
      have g1 : (0 : Int) ≤ 10 * (p' : Int) + i' ∧ 10 * (p' : Int) + i' < 140 := by omega
      have g2 : (10 * (p' : Int) + i').toNat = 10 * p' + i' := by omega
      have g3 := hb p' i'
      have e4 : w32 (co p' i') = co p' i' := w32_s (by omega) (by omega)
      simp [m_instr, m_has_n h1', c1, c2, lt, cI, mg_mp, ml_mp, p_79_6 hs, n_84 hs, e1, e2, g1, g2, h.2.2.2.1 p' i' (by omega) hi', e4]
    · simp [m_instr, m_has_n h1', c1, c2, lt, cI]
  · simp [m_has_n h1', c1, lt, cI]
theorem b_here_t (hs : Sh M) (h : CBp n ag jo pa co he M) (hk : n ≤ 14) {p : Nat} {v : Int} (hp : p < n) (hv : v = 0 ∨ v = 1) : wp (f_Band_here M 1 p v) (fun q => q.1 = 1 ∧ CBp n ag jo pa co (up he p (decide (v = 1))) q.2 ∧ Fr WPl M q.2) := by
  obtain ⟨h1, h2, h3, h4, b, h5, h6, h7⟩ := h
  have g3 : (0 : Int) ≤ p ∧ (p : Int) < n := by omega
  have h5' : mg M (cI 2) 5 = (b : Int) := h5
  have hp2 : (2 ^ p : Nat) < 16384 := Nat.lt_of_lt_of_le (two_lt (show p < 14 by omega)) (by decide)
  have key : ∀ b' : Nat, b' < 16384 → (∀ q, b'.testBit q = up he p (decide (v = 1)) q) → CBp n ag jo pa co (up he p (decide (v = 1))) (mp M 1 5 (b' : Int)) ∧ Fr WPl M (mp M 1 5 (b' : Int)) := by
    intro b' hb' ht
    exact ⟨⟨by simp [mg_mp, h1], fun p hp => by simp [mg_mp]; exact h2 p hp, fun p hp => by simp [mg_mp]; exact h3 p hp, fun p i hp hi => by simp [mg_mp]; exact h4 p i hp hi, b', by simp [mg_mp], hb', ht⟩, Fr_mp (by unfold WPl; omega)⟩
  unfold f_Band_here f_Players_mark j_Players_mark_26
  rw [show mg M (cI 1) 0 = 2 from p_0_0 hs, q_has_n h1, if_pos g3, bShl_1 p (by omega), h5']
  rcases hv with rfl | rfl
  · simp only [lt]
    rw [bNot_n (by omega) (by omega)]
    refine eq_w (a := (1, mp M 1 5 ((b ^^^ (b &&& 2 ^ p) : Nat) : Int))) ?_ ⟨rfl, key _ ?_ ?_⟩
    · simp [cI]
    · have h9 := Nat.xor_lt_two_pow (n := 14) (x := b) (y := b &&& 2 ^ p) (by omega) (Nat.lt_of_le_of_lt Nat.and_le_left (by omega))
      omega
    · intro q
      rw [tb_not, h7]
      unfold up
      by_cases e : q = p
      · simp [e]
      · simp [e, Ne.symm e]
  · simp only [lt]
    rw [bOr_n (by omega) (by omega)]
    refine eq_w (a := (1, mp M 1 5 ((b ||| 2 ^ p : Nat) : Int))) ?_ ⟨rfl, key _ ?_ ?_⟩
    · simp [cI]
    · have h9 := Nat.or_lt_two_pow (n := 14) (x := b) (y := 2 ^ p) (by omega) (by omega)
      omega
    · intro q
      rw [tb_or, h7]
      unfold up
      by_cases e : q = p
      · simp [e]
      · simp [e, Ne.symm e]
theorem b_here_f (hs : Sh M) (h : CBp n ag jo pa co he M) {p v : Int} (hp : ¬ (0 ≤ p ∧ p < (n : Int))) : f_Band_here M 1 p v = some (0, M) := by
  unfold f_Band_here
  simp [q_has_n h.1, hp, cI, p_0_0 hs]
theorem m_here_t (hs : Sh M) (h : CMp n ag jo pa co he M) (hk : n ≤ 14) {p : Nat} {v : Int} (hp : p < n) (hv : v = 0 ∨ v = 1) : wp (f_Model_here M 80 p v) (fun q => q.1 = 1 ∧ CMp n ag jo pa co (up he p (decide (v = 1))) q.2 ∧ Fr WMp M q.2) := by
  obtain ⟨h1, h2, h3, h4, h5⟩ := h
  have h1' : mg (mp M 79 0 0) 79 1 = (n : Int) := by simp [mg_mp, h1]
  have g3 : (0 : Int) ≤ p ∧ (p : Int) < n := by omega
  have g4 : (p : Int) < 14 := by omega
  refine eq_w (a := (1, mp (mp M 79 0 0) 83 p v)) ?_ ⟨rfl, ?_, Fr_wr (Fr_mp (by unfold WMp; omega)) (by unfold WMp; omega)⟩
  · unfold f_Model_here
    simp [m_has_n h1', g3, g4, hv, lt, cI, mg_mp, ml_mp, p_79_5 hs, n_83 hs]
  · refine ⟨by simp [mg_mp, h1], fun p hp => by simp [mg_mp]; exact h2 p hp, fun p hp => by simp [mg_mp]; exact h3 p hp, fun p i hp hi => by simp [mg_mp]; exact h4 p i hp hi, fun q hq => ?_⟩
    simp only [mg_mp, up]
    by_cases e : q = p
    · rcases hv with rfl | rfl <;> simp [e]
    · simp [e, h5 q hq]
theorem m_here_f (h : CMp n ag jo pa co he M) {p v : Int} (hp : ¬ (0 ≤ p ∧ p < (n : Int))) : f_Model_here M 80 p v = some (0, mp M 79 0 0) := by
  have h1' : mg (mp M 79 0 0) 79 1 = (n : Int) := by simp [mg_mp, h.1]
  unfold f_Model_here
  simp [m_has_n h1', hp, lt, cI]
theorem b_contest_t (hs : Sh M) (h : CBp n ag jo pa co he M) (hk : n ≤ 14) {p : Nat} (hp : p < n) (h0 : 0 ≤ pa p) (hc : pa p < 1000) : wp (f_Band_contest M 1 p) (fun q => q.1 = pa p + 1 ∧ CBp n ag jo (up pa p (pa p + 1)) co he q.2 ∧ Fr WPl M q.2) := by
  obtain ⟨h1, h2, h3, h4, b, h5, h6, h7⟩ := h
  have g3 : (0 : Int) ≤ p ∧ (p : Int) < n := by omega
  have g4 : (p : Int) < 14 := by omega
  have e1 : w32 (pa p + 1) = pa p + 1 := w32_s (by omega) (by omega)
  refine eq_w (a := (pa p + 1, mp M 4 p (pa p + 1))) ?_ ⟨rfl, ?_, Fr_mp (by unfold WPl; omega)⟩
  · unfold f_Band_contest f_Players_compete
    simp [q_has_n h1, g3, g4, hc, lt, cI, mg_mp, ml_mp, p_0_0 hs, p_1_2 hs, n_4 hs, h3 p (by omega), e1]
  · refine ⟨by simp [mg_mp, h1], fun p hp => by simp [mg_mp]; exact h2 p hp, fun q hq => ?_, fun p i hp hi => by simp [mg_mp]; exact h4 p i hp hi, b, by simp [mg_mp, h5], h6, h7⟩
    simp only [mg_mp, up]
    by_cases e : q = p
    · simp [e]
    · simp [e, h3 q hq]
theorem b_contest_f (hs : Sh M) (h : CBp n ag jo pa co he M) (hk : n ≤ 14) {p : Int} (hc : ¬ ((0 ≤ p ∧ p < (n : Int)) ∧ pa p.toNat < 1000)) : f_Band_contest M 1 p = some (-1, M) := by
  unfold f_Band_contest
  by_cases c1 : 0 ≤ p ∧ p < (n : Int)
  · obtain ⟨p', rfl, hp'⟩ := nat_of c1.1 c1.2
    have c2 : ¬ pa p' < 1000 := fun c2 => hc ⟨c1, c2⟩
    have g4 : (p' : Int) < 14 := by omega
    unfold f_Players_compete
    simp [q_has_n h.1, c1, g4, c2, cI, p_0_0 hs, p_1_2 hs, n_4 hs, h.2.2.1 p' (by omega)]
  · simp [q_has_n h.1, c1, cI, p_0_0 hs]
theorem m_contest_t (hs : Sh M) (h : CMp n ag jo pa co he M) (hk : n ≤ 14) {p : Nat} (hp : p < n) (h0 : 0 ≤ pa p) (hc : pa p < 1000) : wp (f_Model_contest M 80 p) (fun q => q.1 = pa p + 1 ∧ CMp n ag jo (up pa p (pa p + 1)) co he q.2 ∧ Fr WMp M q.2) := by
  obtain ⟨h1, h2, h3, h4, h5⟩ := h
  have h1' : mg (mp M 79 0 0) 79 1 = (n : Int) := by simp [mg_mp, h1]
  have g3 : (0 : Int) ≤ p ∧ (p : Int) < n := by omega
  have g4 : (p : Int) < 14 := by omega
  have g5 : ¬ pa p = 1000 := by omega
  have e1 : w32 (pa p + 1) = pa p + 1 := w32_s (by omega) (by omega)
  refine eq_w (a := (pa p + 1, mp (mp M 79 0 0) 82 p (pa p + 1))) ?_ ⟨rfl, ?_, Fr_wr (Fr_mp (by unfold WMp; omega)) (by unfold WMp; omega)⟩
  · unfold f_Model_contest
    simp [m_has_n h1', g3, g4, g5, lt, cI, mg_mp, ml_mp, p_79_4 hs, n_82 hs, h3 p (by omega), e1]
  · refine ⟨by simp [mg_mp, h1], fun p hp => by simp [mg_mp]; exact h2 p hp, fun q hq => ?_, fun p i hp hi => by simp [mg_mp]; exact h4 p i hp hi, fun p hp => by simp [mg_mp]; exact h5 p hp⟩
    simp only [mg_mp, up]
    by_cases e : q = p
    · simp [e]
    · simp [e, h3 q hq]
theorem m_contest_f (hs : Sh M) (h : CMp n ag jo pa co he M) (hk : n ≤ 14) (hb : ∀ p, 0 ≤ pa p ∧ pa p ≤ 1000) {p : Int} (hc : ¬ ((0 ≤ p ∧ p < (n : Int)) ∧ pa p.toNat < 1000)) : f_Model_contest M 80 p = some (-1, mp M 79 0 0) := by
  have h1' : mg (mp M 79 0 0) 79 1 = (n : Int) := by simp [mg_mp, h.1]
  unfold f_Model_contest
  by_cases c1 : 0 ≤ p ∧ p < (n : Int)
  · obtain ⟨p', rfl, hp'⟩ := nat_of c1.1 c1.2
    have c2 : ¬ pa p' < 1000 := fun c2 => hc ⟨c1, c2⟩
    have c3 : pa p' = 1000 := by have := hb p'; omega
    have g4 : (p' : Int) < 14 := by omega
    simp [m_has_n h1', c1, g4, c3, lt, cI, mg_mp, ml_mp, p_79_4 hs, n_82 hs, h.2.2.1 p' (by omega)]
  · simp [m_has_n h1', c1, lt, cI]
end PL
