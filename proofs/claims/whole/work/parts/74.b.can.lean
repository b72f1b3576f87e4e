/-! which rows there are, and the longest -/
/-- a set and its last piece, as some row has them -/
def Pst (m : Nat) (gd : Nat → Bool) (MI LI : Nat → Int) (MO WH : Int) (s l : Nat) : Prop := (s = 0 ∧ l = 0) ∨ ∃ (r : Nat → Nat) (len : Nat), VR m gd LI MO (len + 1) r ∧ rS r (len + 1) = s ∧ r len = l ∧ mS MI m s ≤ WH
def CanS (m : Nat) (gd : Nat → Bool) (MI LI : Nat → Int) (MO WH : Int) (M : Mm) : Prop := mg M 97 0 = 1 ∧ ∀ s l, s < 2 ^ m → l < 10 → mg M 97 (10 * s + l) = 0 ∨ (mg M 97 (10 * s + l) = 1 ∧ Pst m gd MI LI MO WH s l)
def CanD (m : Nat) (gd : Nat → Bool) (MI LI : Nat → Int) (MO WH lng : Int) (M : Mm) (s l : Nat) : Prop := mg M 97 (10 * s + l) = 1 → mS MI m s ≤ lng ∧ ∀ k, k < m → goB LI gd MO s l k = true → mS MI m (s ||| 2 ^ k) ≤ WH → mg M 97 (10 * (s ||| 2 ^ k) + k) = 1
def W97 (c _x : Nat) : Prop := c = 97
section PRB
variable {m : Nat} {MI LI KE : Nat → Int} {gd : Nat → Bool} {M : Mm} {MO WH : Int}
theorem or_gt {s k : Nat} (h : s.testBit k = false) : s < s ||| 2 ^ k := by
  have h1 : s ≤ s ||| 2 ^ k := Nat.left_le_or
  rcases Nat.lt_or_ge s (s ||| 2 ^ k) with h2 | h2
  · exact h2
  · have e : s = s ||| 2 ^ k := by omega
    have h3 : (s ||| 2 ^ k).testBit k = true := by rw [tb_or]; simp
    rw [← e, h] at h3; cases h3
theorem pst_step (hm : m ≤ 10) (hLI : ∀ k, k < m → 0 ≤ LI k ∧ LI k ≤ 9) {s l k : Nat} (hp : Pst m gd MI LI MO WH s l) (hk : k < m) (hg : goB LI gd MO s l k = true) (hw : mS MI m (s ||| 2 ^ k) ≤ WH) : Pst m gd MI LI MO WH (s ||| 2 ^ k) k := by
  rcases hp with ⟨rfl, rfl⟩ | ⟨r, len, h1, h2, h3, _⟩
  · obtain ⟨g1, g2, _⟩ := (goB_iff (MO := MO) (l := 0) hLI (Or.inr rfl) hk).mp hg
    refine Or.inr ⟨fun _ => k, 0, ⟨fun i _ => ⟨hk, g2⟩, fun i j hi hj _ => by omega, fun i hi => by omega⟩, ?_, rfl, hw⟩
    show 0 ||| 2 ^ k = _
    rfl
  · have hlm : l < m := by rw [← h3]; exact (h1.1 len (by omega)).1
    obtain ⟨g1, g2, g3⟩ := (goB_iff (MO := MO) hLI (Or.inl hlm) hk).mp hg
    have hs0 : s ≠ 0 := fun e => by
      have := (rS_tb r (r len) (len + 1)).mpr ⟨len, by omega, rfl⟩
      rw [h2, e, Nat.zero_testBit] at this; cases this
    refine Or.inr ⟨up r (len + 1) k, len + 1, VR_snoc h1 hk g2 (by rw [h2]; exact g1) (fun j hj => ?_), by rw [rS_snoc, h2], up_s _ _ _, hw⟩
    rw [show j = len by omega, h3]; exact g3 hs0
theorem pow_m (hm : m ≤ 10) : 2 ^ m ≤ 1024 := Nat.le_trans (Nat.pow_le_pow_right (by decide) hm) (by decide)
theorem pst_lt (hm : m ≤ 10) {s l : Nat} (hp : Pst m gd MI LI MO WH s l) : s < 2 ^ m ∧ (l < m ∨ s = 0) := by
  rcases hp with ⟨rfl, rfl⟩ | ⟨r, len, h1, h2, h3, _⟩
  · exact ⟨pow_1 m, Or.inr rfl⟩
  · exact ⟨by rw [← h2]; exact rS_lt _ (fun j hj => (h1.1 j hj).1), Or.inl (by rw [← h3]; exact (h1.1 len (by omega)).1)⟩
theorem sh_97 {M M' : Mm} (h : RP m MI LI KE gd M) (f : Fr W97 M M') : RP m MI LI KE gd M' := RP_fr h f (fun c k w => by unfold W97 at w; unfold isP; omega)
/-- one piece more behind a row that there is -/
theorem m_can169 (h : RP m MI LI KE gd M) (hm : m ≤ 10) (hMI : ∀ k, k < m → 0 ≤ MI k ∧ MI k ≤ 60) (hLI : ∀ k, k < m → 0 ≤ LI k ∧ LI k ≤ 9) (hS : CanS m gd MI LI MO WH M) {s l : Nat} (hs : s < 2 ^ m) (hl : l < 10) (hc : mg M 97 (10 * s + l) = 1) (z3 z4 : Int) : wp (loopN (l_Model_programme_169 80 WH MO z3 z4 (s : Int) (l : Int)) FU (0, M)) (fun M' => Fr W97 M M' ∧ CanS m gd MI LI MO WH M' ∧ (∀ x, x < 10 * (s + 1) → mg M' 97 x = mg M 97 x) ∧ (∀ x, mg M 97 x = 1 → mg M' 97 x = 1) ∧ ∀ k, k < m → goB LI gd MO s l k = true → mS MI m (s ||| 2 ^ k) ≤ WH → mg M' 97 (10 * (s ||| 2 ^ k) + k) = 1) := by
  have hpm := pow_m hm
  have hp : Pst m gd MI LI MO WH s l := by
    rcases hS.2 s l hs hl with e | e
    · rw [hc] at e; cases e
    · exact e.2
  refine wp_loop (fun j x => x.1 = (j : Int) ∧ Fr W97 M x.2 ∧ CanS m gd MI LI MO WH x.2 ∧ (∀ y, y < 10 * (s + 1) → mg x.2 97 y = mg M 97 y) ∧ (∀ y, mg M 97 y = 1 → mg x.2 97 y = 1) ∧ ∀ k, k < j → goB LI gd MO s l k = true → mS MI m (s ||| 2 ^ k) ≤ WH → mg x.2 97 (10 * (s ||| 2 ^ k) + k) = 1) m (by omega) ⟨rfl, Fr_rf, hS, fun _ _ => rfl, fun _ e => e, fun k hk => absurd hk (Nat.not_lt_zero _)⟩ ?_
  rintro j ⟨x, M1⟩ hj ⟨e, hf, hS1, hlo, hkp, hdn⟩
  simp only at e hf hS1 hlo hkp hdn
  subst e
  have h1 := sh_97 h hf
  have ej : w32 ((j : Int) + 1) = ((j + 1 : Nat) : Int) := by rw [w32_s (by omega) (by omega)]; omega
  unfold l_Model_programme_169
  simp only []
  rw [show mg M1 (cI 80) 7 = (m : Int) from h1.2.1]
  refine wC (fun c => wSr ⟨hf, hS1, hlo, hkp, fun k hk => hdn k (by omega)⟩) (fun c => ?_)
  have hj' : j < m := by omega
  refine wX (m_goes h1 hm (show s < 1024 by omega) hl hj') ?_
  cases eg : goB LI gd MO s l j with
  | false =>
    refine wI (by rfl) (wL (wSl ⟨hj', ej, hf, hS1, hlo, hkp, fun k hk hg hw => ?_⟩))
    by_cases ek : k = j
    · subst ek; rw [eg] at hg; cases hg
    · exact hdn k (by omega) hg hw
  | true =>
    obtain ⟨g1, g2, _⟩ := (goB_iff (MO := MO) hLI (pst_lt hm hp).2 hj').mp eg
    have h2j : (2 ^ j : Nat) < 2 ^ m := two_lt hj'
    have hol : s ||| 2 ^ j < 2 ^ m := Nat.or_lt_two_pow hs h2j
    have hgt := or_gt g1
    have hp1 := pow_1 j
    rw [bShl_1 j (by omega), bOr_n (by omega) (by omega)]
    refine wE (by decide) (wX (m_sumOf h1 hm hMI (show s ||| 2 ^ j < 1024 by omega)) (wC (fun c1 => wL (wSl ⟨hj', ej, hf, hS1, hlo, hkp, fun k hk hg hw => ?_⟩)) (fun c1 => ?_)))
    · by_cases ek : k = j
      · subst ek; omega
      · exact hdn k (by omega) hg hw
    · have w1 : w32 (10 * ((s ||| 2 ^ j : Nat) : Int)) = 10 * ((s ||| 2 ^ j : Nat) : Int) := w32_s (by omega) (by omega)
      have w2 : w32 (10 * ((s ||| 2 ^ j : Nat) : Int) + (j : Int)) = 10 * ((s ||| 2 ^ j : Nat) : Int) + (j : Int) := w32_s (by omega) (by omega)
      have t1 : (10 * ((s ||| 2 ^ j : Nat) : Int) + (j : Int)).toNat = 10 * (s ||| 2 ^ j) + j := by omega
      rw [show mg M1 (cI 80) 22 = 98 from p_79_22 h1.1, show cI 98 = 97 from rfl, n_97 h1.1, w1, w2, t1]
      have hpn := pst_step hm hLI hp hj' eg (by omega)
      refine wI (by decide) (wI (by omega) (wL (wL (wSl ⟨hj', ej, Fr_wr hf rfl, ⟨?_, fun s' l' hs' hl' => ?_⟩, fun y hy => ?_, fun y hy => ?_, fun k hk hg hw => ?_⟩))))
      · show mg (mp M1 97 (10 * (s ||| 2 ^ j) + j) 1) 97 0 = 1
        rw [mg_mp]; split
        · rfl
        · exact hS1.1
      · show mg (mp M1 97 (10 * (s ||| 2 ^ j) + j) 1) 97 (10 * s' + l') = 0 ∨ _
        rw [mg_mp]
        by_cases e2 : 10 * s' + l' = 10 * (s ||| 2 ^ j) + j
        · have e3 : s' = s ||| 2 ^ j := by omega
          have e4 : l' = j := by omega
          rw [if_pos ⟨rfl, e2⟩]
          refine Or.inr ⟨rfl, ?_⟩
          rw [e3, e4]; exact hpn
        · rw [if_neg (by omega)]; exact hS1.2 s' l' hs' hl'
      · show mg (mp M1 97 (10 * (s ||| 2 ^ j) + j) 1) 97 y = _
        rw [mg_mp, if_neg (by omega)]; exact hlo y hy
      · show mg (mp M1 97 (10 * (s ||| 2 ^ j) + j) 1) 97 y = 1
        rw [mg_mp]; split
        · rfl
        · exact hkp y hy
      · show mg (mp M1 97 (10 * (s ||| 2 ^ j) + j) 1) 97 (10 * (s ||| 2 ^ k) + k) = 1
        by_cases ek : k = j
        · subst ek; exact mg_mp_s _ _ _ _
        · rw [mg_mp]; split
          · rfl
          · exact hdn k (by omega) hg hw
/-- what is known of the longest -/
def LnG (m : Nat) (gd : Nat → Bool) (MI LI : Nat → Int) (MO WH lng : Int) : Prop := lng = 0 ∨ ∃ s l, Pst m gd MI LI MO WH s l ∧ lng = mS MI m s
theorem m_can121 (h : RP m MI LI KE gd M) (hm : m ≤ 10) (hMI : ∀ k, k < m → 0 ≤ MI k ∧ MI k ≤ 60) (hLI : ∀ k, k < m → 0 ≤ LI k ∧ LI k ≤ 9) (hS : CanS m gd MI LI MO WH M) {s : Nat} (hs : s < 2 ^ m) {lng : Int} (hL : LnG m gd MI LI MO WH lng) (hl0 : 0 ≤ lng ∧ lng ≤ 600) (hD : ∀ s' l', s' < s → l' < 10 → CanD m gd MI LI MO WH lng M s' l') (z3 : Int) : wp (loopN (l_Model_programme_121 80 WH MO z3 (s : Int)) FU (lng, 0, M)) (fun t => Fr W97 M t.2 ∧ CanS m gd MI LI MO WH t.2 ∧ LnG m gd MI LI MO WH t.1 ∧ (0 ≤ t.1 ∧ t.1 ≤ 600) ∧ ∀ s' l', s' < s + 1 → l' < 10 → CanD m gd MI LI MO WH t.1 t.2 s' l') := by
  have hpm := pow_m hm
  refine wp_loop (fun j x => x.2.1 = (j : Int) ∧ Fr W97 M x.2.2 ∧ CanS m gd MI LI MO WH x.2.2 ∧ LnG m gd MI LI MO WH x.1 ∧ (0 ≤ x.1 ∧ x.1 ≤ 600) ∧ ∀ s' l', (s' < s ∨ (s' = s ∧ l' < j)) → l' < 10 → CanD m gd MI LI MO WH x.1 x.2.2 s' l') 10 (by omega) ⟨rfl, Fr_rf, hS, hL, hl0, fun s' l' hc hl' => hD s' l' (by omega) hl'⟩ ?_
  rintro j ⟨g, x, M1⟩ hj ⟨e, hf, hS1, hL1, hb1, hD1⟩
  simp only at e hf hS1 hL1 hb1 hD1
  subst e
  have h1 := sh_97 h hf
  have ej : w32 ((j : Int) + 1) = ((j + 1 : Nat) : Int) := by rw [w32_s (by omega) (by omega)]; omega
  unfold l_Model_programme_121
  simp only []
  refine wC (fun c => wSr ⟨hf, hS1, hL1, hb1, fun s' l' hs' hl' => hD1 s' l' (by omega) hl'⟩) (fun c => ?_)
  have hj' : j < 10 := by omega
  have w1 : w32 (10 * (s : Int)) = 10 * (s : Int) := w32_s (by omega) (by omega)
  have w2 : w32 (10 * (s : Int) + (j : Int)) = 10 * (s : Int) + (j : Int) := w32_s (by omega) (by omega)
  have t1 : (10 * (s : Int) + (j : Int)).toNat = 10 * s + j := by omega
  rw [show mg M1 (cI 80) 22 = 98 from p_79_22 h1.1, show cI 98 = 97 from rfl, n_97 h1.1, w1, w2, t1]
  refine wI (by decide) (wI (by omega) (wC (fun c1 => ?_) (fun c1 => ?_)))
  · have hc1 : mg M1 97 (10 * s + j) = 1 := by
      rcases hS1.2 s j hs hj' with e | e
      · exact absurd e c1
      · exact e.1
    have hp : Pst m gd MI LI MO WH s j := by
      rcases hS1.2 s j hs hj' with e | e
      · exact absurd e c1
      · exact e.2
    have hms := mS_b (mi := MI) (N := m) hMI s
    have tail : ∀ g2 : Int, g ≤ g2 → mS MI m s ≤ g2 → LnG m gd MI LI MO WH g2 → g2 ≤ 600 → wp (j_Model_programme_166_121 M1 80 WH MO z3 g2 (s : Int) (j : Int)) (Sum.elim (fun x' => j < 10 ∧ x'.2.1 = ((j + 1 : Nat) : Int) ∧ Fr W97 M x'.2.2 ∧ CanS m gd MI LI MO WH x'.2.2 ∧ LnG m gd MI LI MO WH x'.1 ∧ (0 ≤ x'.1 ∧ x'.1 ≤ 600) ∧ ∀ s' l', (s' < s ∨ (s' = s ∧ l' < j + 1)) → l' < 10 → CanD m gd MI LI MO WH x'.1 x'.2.2 s' l') (fun t => Fr W97 M t.2 ∧ CanS m gd MI LI MO WH t.2 ∧ LnG m gd MI LI MO WH t.1 ∧ (0 ≤ t.1 ∧ t.1 ≤ 600) ∧ ∀ s' l', s' < s + 1 → l' < 10 → CanD m gd MI LI MO WH t.1 t.2 s' l')) := by
      intro g2 hg1 hg2 hg3 hg4
      unfold j_Model_programme_166_121
      refine wK (m_can169 h1 hm hMI hLI hS1 hs hj' hc1 z3 g2) (fun M2 hM2 => ?_)
      obtain ⟨k1, k2, k3, k4, k5⟩ := hM2
      refine wL (wSl ⟨hj', ej, Fr_tr hf k1, k2, hg3, ⟨by omega, hg4⟩, fun s' l' hc hl' => ?_⟩)
      intro hone
      simp only at hone ⊢
      by_cases e2 : s' = s ∧ l' = j
      · obtain ⟨rfl, rfl⟩ := e2
        exact ⟨hg2, k5⟩
      · have hold : mg M1 97 (10 * s' + l') = 1 := by rw [← k3 _ (by omega)]; exact hone
        obtain ⟨d1, d2⟩ := hD1 s' l' (by omega) hl' hold
        exact ⟨by omega, fun k hk hg hw => k4 _ (d2 k hk hg hw)⟩
    refine wX (m_sumOf h1 hm hMI (show s < 1024 by omega)) (wC (fun c2 => tail g (Int.le_refl _) c2 hL1 hb1.2) (fun c2 => wX (m_sumOf h1 hm hMI (show s < 1024 by omega)) (tail _ (by omega) (Int.le_refl _) (Or.inr ⟨s, j, hp, rfl⟩) (by omega))))
  · refine wL (wSl ⟨hj', ej, hf, hS1, hL1, hb1, fun s' l' hc hl' => ?_⟩)
    by_cases e2 : s' = s ∧ l' = j
    · obtain ⟨rfl, rfl⟩ := e2
      intro hone
      simp only at hone
      rw [hone] at c1
      exact absurd (by decide) c1
    · exact hD1 s' l' (by omega) hl'
theorem m_can112 (h : RP m MI LI KE gd M) (hm : m ≤ 10) (hMI : ∀ k, k < m → 0 ≤ MI k ∧ MI k ≤ 60) (hLI : ∀ k, k < m → 0 ≤ LI k ∧ LI k ≤ 9) (hS : CanS m gd MI LI MO WH M) : wp (loopN (l_Model_programme_112 80 WH MO ((2 ^ m : Nat) : Int)) FU (0, 0, M)) (fun t => Fr W97 M t.2 ∧ CanS m gd MI LI MO WH t.2 ∧ LnG m gd MI LI MO WH t.1 ∧ (0 ≤ t.1 ∧ t.1 ≤ 600) ∧ ∀ s' l', s' < 2 ^ m → l' < 10 → CanD m gd MI LI MO WH t.1 t.2 s' l') := by
  have hpm := pow_m hm
  refine wp_loop (fun j x => x.2.1 = (j : Int) ∧ Fr W97 M x.2.2 ∧ CanS m gd MI LI MO WH x.2.2 ∧ LnG m gd MI LI MO WH x.1 ∧ (0 ≤ x.1 ∧ x.1 ≤ 600) ∧ ∀ s' l', s' < j → l' < 10 → CanD m gd MI LI MO WH x.1 x.2.2 s' l') (2 ^ m) (by omega) ⟨rfl, Fr_rf, hS, Or.inl rfl, ⟨Int.le_refl 0, (by decide : (0 : Int) ≤ 600)⟩, fun s' l' hc => absurd hc (Nat.not_lt_zero _)⟩ ?_
  rintro j ⟨g, x, M1⟩ hj ⟨e, hf, hS1, hL1, hb1, hD1⟩
  simp only at e hf hS1 hL1 hb1 hD1
  subst e
  have h1 := sh_97 h hf
  unfold l_Model_programme_112
  simp only []
  refine wC (fun c => wSr ⟨hf, hS1, hL1, hb1, fun s' l' hs' hl' => hD1 s' l' (by omega) hl'⟩) (fun c => ?_)
  have hj' : j < 2 ^ m := by omega
  refine wK (m_can121 h1 hm hMI hLI hS1 hj' hL1 hb1 hD1 _) (fun t ht => ?_)
  obtain ⟨k1, k2, k3, k4, k5⟩ := ht
  exact wL (wSl ⟨hj', by rw [w32_s (by omega) (by omega)]; rfl, Fr_tr hf k1, k2, k3, k4, k5⟩)
/-- every row is found -/
theorem can_all (hm : m ≤ 10) (hMI : ∀ k, k < m → 0 ≤ MI k ∧ MI k ≤ 60) (hLI : ∀ k, k < m → 0 ≤ LI k ∧ LI k ≤ 9) (hS : CanS m gd MI LI MO WH M) {lng : Int} (hD : ∀ s' l', s' < 2 ^ m → l' < 10 → CanD m gd MI LI MO WH lng M s' l') {r : Nat → Nat} : ∀ len, VR m gd LI MO (len + 1) r → mS MI m (rS r (len + 1)) ≤ WH → mg M 97 (10 * rS r (len + 1) + r len) = 1
  | 0, hv, hw => by
    have h0 := hv.1 0 (by omega)
    have hD0 := (hD 0 0 (pow_1 m) (by omega) hS.1).2 (r 0) h0.1 ((goB_iff (MO := MO) (l := 0) hLI (Or.inr rfl) h0.1).mpr ⟨Nat.zero_testBit _, h0.2, fun e => absurd rfl e⟩) hw
    exact hD0
  | len + 1, hv, hw => by
    have hv' := VR_pre hv (show len + 1 ≤ len + 1 + 1 by omega)
    have h0 := hv.1 (len + 1) (by omega)
    have hl := hv.1 len (by omega)
    have hno : (rS r (len + 1)).testBit (r (len + 1)) = false := by
      cases e : (rS r (len + 1)).testBit (r (len + 1)) with
      | false => rfl
      | true =>
        obtain ⟨j, j1, j2⟩ := (rS_tb r _ _).mp e
        have := hv.2.1 j (len + 1) (by omega) (by omega) j2
        omega
    have hadd : mS MI m (rS r (len + 1 + 1)) = mS MI m (rS r (len + 1)) + MI (r (len + 1)) := mS_add m h0.1 hno
    have hmi := hMI _ h0.1
    have ih := can_all hm hMI hLI hS hD len hv' (by omega)
    have hsl : rS r (len + 1) < 2 ^ m := rS_lt _ (fun j hj => (hv'.1 j hj).1)
    exact (hD (rS r (len + 1)) (r len) hsl (by omega) ih).2 (r (len + 1)) h0.1 ((goB_iff (MO := MO) hLI (Or.inl hl.1) h0.1).mpr ⟨hno, h0.2, fun _ => hv.2.2 len (by omega)⟩) hw
theorem lng_ge (hm : m ≤ 10) (hMI : ∀ k, k < m → 0 ≤ MI k ∧ MI k ≤ 60) (hLI : ∀ k, k < m → 0 ≤ LI k ∧ LI k ≤ 9) (hS : CanS m gd MI LI MO WH M) {lng : Int} (hl0 : 0 ≤ lng) (hD : ∀ s' l', s' < 2 ^ m → l' < 10 → CanD m gd MI LI MO WH lng M s' l') {r : Nat → Nat} {len : Nat} (hv : VR m gd LI MO len r) (hw : mS MI m (rS r len) ≤ WH) : mS MI m (rS r len) ≤ lng := by
  cases len with
  | zero =>
    show mS MI m 0 ≤ lng
    rw [mS_0]; exact hl0
  | succ len =>
    have h1 := can_all hm hMI hLI hS hD len hv hw
    have hl := hv.1 len (by omega)
    exact (hD _ _ (rS_lt _ (fun j hj => (hv.1 j hj).1)) (by omega) h1).1
theorem lng_at {lng : Int} (hL : LnG m gd MI LI MO WH lng) (hWH : 0 ≤ WH) : ∃ (r : Nat → Nat) (len : Nat), VR m gd LI MO len r ∧ mS MI m (rS r len) = lng ∧ lng ≤ WH := by
  have emp : lng = 0 → ∃ (r : Nat → Nat) (len : Nat), VR m gd LI MO len r ∧ mS MI m (rS r len) = lng ∧ lng ≤ WH := fun e => ⟨fun _ => 0, 0, ⟨fun i hi => absurd hi (Nat.not_lt_zero _), fun i j hi => absurd hi (Nat.not_lt_zero _), fun i hi => absurd hi (Nat.not_lt_zero _)⟩, by rw [e]; exact mS_0 MI m, by omega⟩
  rcases hL with e | ⟨s, l, hp, e⟩
  · exact emp e
  · rcases hp with ⟨rfl, rfl⟩ | ⟨r, len, h1, h2, h3, h4⟩
    · exact emp (by rw [e]; exact mS_0 MI m)
    · exact ⟨r, len + 1, h1, by rw [h2, e], by rw [e]; exact h4⟩
end PRB
