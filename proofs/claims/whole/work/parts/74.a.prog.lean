/-! the reference's programme: what it reads -/
/-- pieces' minutes, lips, keys, who is good -/
def RP (m : Nat) (MI LI KE : Nat → Int) (gd : Nat → Bool) (M : Mm) : Prop := Sh M ∧ mg M 79 7 = (m : Int) ∧ (∀ x, x < 10 → mg M 86 x = MI x ∧ mg M 87 x = LI x ∧ mg M 88 x = KE x) ∧ ∀ k, k < m → mg M 98 k = if gd k then 1 else 0
noncomputable def goB (LI : Nat → Int) (gd : Nat → Bool) (MO : Int) (s l k : Nat) : Bool := !s.testBit k && gd k && (decide (s = 0) || decide (w32 (LI l + LI k) ≤ MO))
noncomputable def stM (KE : Nat → Int) (a b : Nat) : Int := if (if KE b ≤ KE a then w32 (KE a - KE b) else w32 (KE b - KE a)) ≤ 6 then (if KE b ≤ KE a then w32 (KE a - KE b) else w32 (KE b - KE a)) else w32 (12 - (if KE b ≤ KE a then w32 (KE a - KE b) else w32 (KE b - KE a)))
section PRA
variable {m : Nat} {MI LI KE : Nat → Int} {gd : Nat → Bool} {M : Mm} {MO : Int}
theorem m_sumOf (h : RP m MI LI KE gd M) (hm : m ≤ 10) (hMI : ∀ k, k < m → 0 ≤ MI k ∧ MI k ≤ 60) {s : Nat} (hs : s < 1024) : f_Model_sumOf M 80 (s : Int) = some (mS MI m s) := by
  obtain ⟨hsh, h7, hr, _⟩ := h
  unfold f_Model_sumOf
  refine xb (loop_for (fun j => (mS MI j s, (j : Int))) m (t := mS MI m s) (by omega) rfl (fun j hj => ?_) ?_) rfl
  · have e1 : w32 ((j : Int) + 1) = ((j + 1 : Nat) : Int) := by rw [w32_s (by omega) (by omega)]; omega
    have hb := mS_b (mi := MI) (N := j) (fun k hk => hMI k (by omega)) s
    have hb2 := hMI j hj
    have e2 : w32 (mS MI j s + MI j) = mS MI j s + MI j := w32_s (by omega) (by omega)
    unfold l_Model_sumOf_4
    simp only [lt, e1]
    rw [show mg M (cI 80) 7 = (m : Int) from h7, if_neg (by omega), bit_n (show s < 2147483648 by omega) (show j < 32 by omega), show mg M (cI 80) 9 = 87 from p_79_9 hsh, show cI 87 = 86 from rfl, n_86 hsh, Int.toNat_natCast, (hr j (by omega)).1, e2]
    have e3 : mS MI (j + 1) s = mS MI j s + (if s.testBit j then MI j else 0) := rfl
    rw [e3]
    cases s.testBit j with
    | false => rw [if_pos (by decide)]; simp
    | true => rw [if_neg (by decide), if_pos (by decide), if_pos (by omega)]; rfl
  · unfold l_Model_sumOf_4
    simp only []
    rw [show mg M (cI 80) 7 = (m : Int) from h7, if_pos (by omega)]
theorem m_strainOf (h : RP m MI LI KE gd M) {a b : Nat} (ha : a < 10) (hb : b < 10) : f_Model_strainOf M 80 (a : Int) (b : Int) = some (stM KE a b) := by
  obtain ⟨hsh, h7, hr, _⟩ := h
  unfold f_Model_strainOf stM
  rw [show mg M (cI 80) 11 = 89 from p_79_11 hsh, show cI 89 = 88 from rfl, n_88 hsh, Int.toNat_natCast, Int.toNat_natCast, (hr a ha).2.2, (hr b hb).2.2, if_pos (by decide), if_pos (by omega), if_pos (by omega)]
  unfold j_Model_strainOf_44
  by_cases c : KE b ≤ KE a
  · rw [if_pos c, if_pos c]
    by_cases c2 : w32 (KE a - KE b) ≤ 6
    · rw [if_pos c2, if_pos c2]
    · rw [if_neg c2, if_neg c2]
  · rw [if_neg c, if_neg c]
    by_cases c2 : w32 (KE b - KE a) ≤ 6
    · rw [if_pos c2, if_pos c2]
    · rw [if_neg c2, if_neg c2]
theorem m_goes (h : RP m MI LI KE gd M) (hm : m ≤ 10) {s l k : Nat} (hs : s < 1024) (hl : l < 10) (hk : k < m) : f_Model_goes M 80 (s : Int) (l : Int) (k : Int) MO = some (if goB LI gd MO s l k then 1 else 0) := by
  obtain ⟨hsh, h7, hr, hg⟩ := h
  unfold f_Model_goes goB
  rw [bit_n (show s < 2147483648 by omega) (show k < 32 by omega), show mg M (cI 80) 23 = 99 from p_79_23 hsh, show cI 99 = 98 from rfl, n_98 hsh, Int.toNat_natCast, hg k hk, show mg M (cI 80) 10 = 88 from p_79_10 hsh, show cI 88 = 87 from rfl, n_87 hsh, Int.toNat_natCast, (hr l hl).2.1, (hr k (by omega)).2.1]
  cases s.testBit k with
  | true => rw [if_pos (by decide)]; rfl
  | false =>
    rw [if_neg (by decide), if_pos (by decide), if_pos (by omega)]
    cases gd k with
    | false => rw [if_pos (by rfl)]; rfl
    | true =>
      rw [if_neg (by decide)]
      by_cases c0 : s = 0
      · subst c0
        rw [if_pos (show ((0 : Nat) : Int) = 0 from rfl)]; rfl
      · rw [if_neg (by omega), if_pos (by decide), if_pos (by omega), if_pos (by omega), decide_eq_false c0]
        by_cases c1 : w32 (LI l + LI k) ≤ MO
        · rw [if_neg (by omega), decide_eq_true c1]; rfl
        · rw [if_pos (by omega), decide_eq_false c1]; rfl
/-- for pieces that there are: plain numbers -/
theorem goB_iff (hLI : ∀ k, k < m → 0 ≤ LI k ∧ LI k ≤ 9) {s l k : Nat} (hl : l < m ∨ s = 0) (hk : k < m) : goB LI gd MO s l k = true ↔ s.testBit k = false ∧ gd k = true ∧ (s ≠ 0 → LI l + LI k ≤ MO) := by
  unfold goB
  rw [Bool.and_eq_true, Bool.and_eq_true, Bool.not_eq_true', Bool.or_eq_true, decide_eq_true_iff, decide_eq_true_iff, and_assoc]
  constructor
  · rintro ⟨h1, h2, h3⟩
    refine ⟨h1, h2, fun h0 => ?_⟩
    rcases h3 with h3 | h3
    · exact absurd h3 h0
    · rcases hl with hl | hl
      · have a1 := hLI l hl
        have a2 := hLI k hk
        rw [w32_s (by omega) (by omega)] at h3
        exact h3
      · exact absurd hl h0
  · rintro ⟨h1, h2, h3⟩
    refine ⟨h1, h2, ?_⟩
    by_cases h0 : s = 0
    · exact Or.inl h0
    · refine Or.inr ?_
      rcases hl with hl | hl
      · have a1 := hLI l hl
        have a2 := hLI k hk
        rw [w32_s (by omega) (by omega)]
        exact h3 h0
      · exact absurd hl h0
/-- how far two keys are apart -/
def kgp (KE : Nat → Int) (a b : Nat) : Int := if (if KE b ≤ KE a then KE a - KE b else KE b - KE a) ≤ 6 then (if KE b ≤ KE a then KE a - KE b else KE b - KE a) else 12 - (if KE b ≤ KE a then KE a - KE b else KE b - KE a)
theorem stM_eq (hKE : ∀ k, k < m → 0 ≤ KE k ∧ KE k ≤ 11) {a b : Nat} (ha : a < m) (hb : b < m) : stM KE a b = kgp KE a b := by
  have a1 := hKE a ha
  have a2 := hKE b hb
  unfold stM kgp
  by_cases c : KE b ≤ KE a
  · simp only [if_pos c]
    rw [w32_s (x := KE a - KE b) (by omega) (by omega), w32_s (x := 12 - (KE a - KE b)) (by omega) (by omega)]
  · simp only [if_neg c]
    rw [w32_s (x := KE b - KE a) (by omega) (by omega), w32_s (x := 12 - (KE b - KE a)) (by omega) (by omega)]
theorem kgp_b (hKE : ∀ k, k < m → 0 ≤ KE k ∧ KE k ≤ 11) {a b : Nat} (ha : a < m) (hb : b < m) : 0 ≤ kgp KE a b ∧ kgp KE a b ≤ 6 := by
  have a1 := hKE a ha
  have a2 := hKE b hb
  unfold kgp
  by_cases c : KE b ≤ KE a
  · simp only [if_pos c]; split <;> omega
  · simp only [if_neg c]; split <;> omega
theorem RP_fr {W : Nat → Nat → Prop} {M' : Mm} (h : RP m MI LI KE gd M) (f : Fr W M M') (hw : ∀ c k, W c k → ¬ isP c k ∧ ¬ (c = 79 ∧ k = 7) ∧ ¬ (86 ≤ c ∧ c ≤ 88) ∧ c ≠ 98) : RP m MI LI KE gd M' := by
  obtain ⟨hsh, h7, hr, hg⟩ := h
  refine ⟨Sh_fr hsh f (fun c k w => (hw c k w).1), (f.1 79 7 (fun w => (hw _ _ w).2.1 ⟨rfl, rfl⟩)).trans h7, fun x hx => ?_, fun k hk => (f.1 98 k (fun w => (hw _ _ w).2.2.2 rfl)).trans (hg k hk)⟩
  rw [f.1 86 x (fun w => (hw _ _ w).2.2.1 (by omega)), f.1 87 x (fun w => (hw _ _ w).2.2.1 (by omega)), f.1 88 x (fun w => (hw _ _ w).2.2.1 (by omega))]
  exact hr x hx
end PRA
