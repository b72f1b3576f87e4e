/-! PLAYERS: how many, AGE, JOINED, CONTESTS, COSTS, HERE -/
abbrev SP : Type := Nat × (Nat → Int) × (Nat → Int) × (Nat → Int) × (Nat → Nat → Int) × (Nat → Bool)
def OKp (s : SP) : Prop := s.1 ≤ 14 ∧ (∀ p, 0 ≤ s.2.1 p ∧ s.2.1 p ≤ 99) ∧ (∀ p, 0 ≤ s.2.2.1 p ∧ s.2.2.1 p ≤ 999) ∧ (∀ p, 0 ≤ s.2.2.2.1 p ∧ s.2.2.2.1 p ≤ 1000) ∧ (∀ p i, -1 ≤ s.2.2.2.2.1 p i ∧ s.2.2.2.2.1 p i ≤ 9) ∧ ∀ p, s.1 ≤ p → s.2.2.2.2.2 p = false
def CBp (s : SP) (M : Mm) : Prop := (mg M 0 0 = 2 ∧ mg M 1 0 = 3 ∧ mg M 1 1 = 4 ∧ mg M 1 2 = 5 ∧ mg M 1 3 = 6) ∧ (ml M 2 = 14 ∧ ml M 3 = 14 ∧ ml M 4 = 14 ∧ ml M 5 = 140) ∧ mg M 1 4 = (s.1 : Int) ∧ (∀ p, p < s.1 → mg M 2 p = s.2.1 p ∧ mg M 3 p = s.2.2.1 p) ∧ (∀ p, p < 14 → mg M 4 p = s.2.2.2.1 p) ∧ (∀ p i, p < 14 → i < 10 → mg M 5 (10 * p + i) = s.2.2.2.2.1 p i) ∧ ∃ b : Nat, mg M 1 5 = (b : Int) ∧ b < 16384 ∧ ∀ p, b.testBit p = s.2.2.2.2.2 p
def CMp (s : SP) (M : Mm) : Prop := (mg M 79 2 = 81 ∧ mg M 79 3 = 82 ∧ mg M 79 4 = 83 ∧ mg M 79 5 = 84 ∧ mg M 79 6 = 85) ∧ (ml M 80 = 14 ∧ ml M 81 = 14 ∧ ml M 82 = 14 ∧ ml M 83 = 14 ∧ ml M 84 = 140) ∧ mg M 79 1 = (s.1 : Int) ∧ (∀ p, p < s.1 → mg M 80 p = s.2.1 p ∧ mg M 81 p = s.2.2.1 p) ∧ (∀ p, p < 14 → mg M 82 p = s.2.2.2.1 p) ∧ (∀ p i, p < 14 → i < 10 → mg M 84 (10 * p + i) = s.2.2.2.2.1 p i + 1) ∧ ∀ p, p < 14 → mg M 83 p = if s.2.2.2.2.2 p then 1 else 0
theorem CBp_al {s : SP} {M M' : Mm} (h : CBp s M) (ha : Al (fun c => c ≤ 5) M M') : CBp s M' := by
  have e : ∀ c, c ≤ 5 → (∀ k, mg M' c k = mg M c k) := fun c hc => (ha c hc).1
  have l : ∀ c, c ≤ 5 → ml M' c = ml M c := fun c hc => (ha c hc).2
  unfold CBp at h ⊢
  simp only [e 0 (by omega), e 1 (by omega), e 2 (by omega), e 3 (by omega), e 4 (by omega), e 5 (by omega), l 2 (by omega), l 3 (by omega), l 4 (by omega), l 5 (by omega)]
  exact h
theorem CMp_al {s : SP} {M M' : Mm} (h : CMp s M) (h79 : ∀ k, k ≤ 6 → mg M' 79 k = mg M 79 k) (ha : Al (fun c => 80 ≤ c ∧ c ≤ 84) M M') : CMp s M' := by
  have e : ∀ c, 80 ≤ c ∧ c ≤ 84 → (∀ k, mg M' c k = mg M c k) := fun c hc => (ha c hc).1
  have l : ∀ c, 80 ≤ c ∧ c ≤ 84 → ml M' c = ml M c := fun c hc => (ha c hc).2
  unfold CMp at h ⊢
  simp only [h79 1 (by omega), h79 2 (by omega), h79 3 (by omega), h79 4 (by omega), h79 5 (by omega), h79 6 (by omega), e 80 (by omega), e 81 (by omega), e 82 (by omega), e 83 (by omega), e 84 (by omega), l 80 (by omega), l 81 (by omega), l 82 (by omega), l 83 (by omega), l 84 (by omega)]
  exact h
/-! small questions -/
theorem q_within (M : Mm) (a b c : Int) : f_Band_isWithin M a b c = some (if b ≤ a ∧ a ≤ c then 1 else 0) := by
  unfold f_Band_isWithin
  by_cases h1 : a < b
  · rw [if_pos h1, if_neg (by omega)]
  · rw [if_neg h1]
    by_cases h2 : c < a
    · rw [if_pos h2, if_neg (by omega)]
    · rw [if_neg h2, if_pos (by omega)]
theorem q_day (M : Mm) (a : Int) : f_Band_isDay M a = some (if 0 ≤ a ∧ a ≤ 999 then 1 else 0) := by
  unfold f_Band_isDay; rw [q_within]; rfl
theorem q_instr (M : Mm) (a : Int) : f_Band_isInstrument M a = some (if 0 ≤ a ∧ a ≤ 9 then 1 else 0) := by
  unfold f_Band_isInstrument; rw [q_within]; rfl
theorem q_has {s : SP} {M : Mm} (h : CBp s M) (a : Int) : f_Players_has M 2 a = some (if 0 ≤ a ∧ a < (s.1 : Int) then 1 else 0) := by
  unfold f_Players_has
  have e : mg M (cI 2) 4 = (s.1 : Int) := h.2.2.1
  rw [e]
  by_cases h1 : a < 0
  · rw [if_pos h1, if_neg (by omega)]
  · rw [if_neg h1]
    by_cases h2 : (s.1 : Int) ≤ a
    · rw [if_pos h2, if_neg (by omega)]
    · rw [if_neg h2, if_pos (by omega)]
theorem q_cost {s : SP} {M : Mm} (h : CBp s M) {p i : Nat} (hp : p < 14) (hi : i < 10) : f_Players_costOf M 2 (p : Int) (i : Int) = some (s.2.2.2.2.1 p i) := by
  unfold f_Players_costOf
  have e : mg M (cI 2) 3 = 6 := h.1.2.2.2.2
  have e1 : w32 ((p : Int) * 10) = (p : Int) * 10 := w32_s (by omega) (by omega)
  have e2 : w32 ((p : Int) * 10 + (i : Int)) = (p : Int) * 10 + i := w32_s (by omega) (by omega)
  have e3 : ml M (cI 6) = 140 := h.2.1.2.2.2
  rw [e, e1, e2, e3, if_pos (by decide), if_pos (by omega)]
  have e4 : ((p : Int) * 10 + (i : Int)).toNat = 10 * p + i := by omega
  rw [e4]
  exact congrArg some (h.2.2.2.2.2.1 p i hp hi)
theorem q_pres {s : SP} {M : Mm} (h : CBp s M) {p : Nat} (hp : p < 32) : f_Players_isPresent M 2 (p : Int) = some (if s.2.2.2.2.2 p then 1 else 0) := by
  unfold f_Players_isPresent
  obtain ⟨b, e, hb, ht⟩ := h.2.2.2.2.2.2
  have e : mg M (cI 2) 5 = (b : Int) := e
  rw [e, bit_n (by omega) hp, ht p]
  cases s.2.2.2.2.2 p <;> rfl
