/-! the least strain that is left -/
def lmE (f : Nat → Int) : Nat → Int
  | 0 => 1000000
  | k + 1 => if lmE f k = 0 then 0 else if f k < lmE f k then f k else lmE f k
theorem lmE_0 {f : Nat → Int} {j : Nat} (h : lmE f j = 0) : ∀ n, j ≤ n → lmE f n = 0
  | 0, hn => by
    have : j = 0 := by omega
    rw [this] at h; exact h
  | n + 1, hn => by
    by_cases e : j = n + 1
    · rw [← e]; exact h
    · have := lmE_0 h n (by omega)
      unfold lmE; rw [if_pos this]
theorem lmE_cg {f g : Nat → Int} : ∀ n, (∀ k, k < n → f k = g k) → lmE f n = lmE g n
  | 0, _ => rfl
  | n + 1, h => by
    have h1 := lmE_cg n (fun k hk => h k (by omega))
    have h2 := h n (by omega)
    show (if lmE f n = 0 then 0 else if f n < lmE f n then f n else lmE f n) = (if lmE g n = 0 then 0 else if g n < lmE g n then g n else lmE g n)
    rw [h1, h2]
theorem lmE_b {f : Nat → Int} : ∀ n, (∀ k, k < n → 0 ≤ f k) → 0 ≤ lmE f n ∧ lmE f n ≤ 1000000 ∧ ∀ k, k < n → lmE f n ≤ f k
  | 0, _ => ⟨by unfold lmE; omega, by unfold lmE; omega, fun k hk => absurd hk (Nat.not_lt_zero k)⟩
  | n + 1, h => by
    obtain ⟨h1, h2, h3⟩ := lmE_b n (fun k hk => h k (by omega))
    have h4 := h n (by omega)
    unfold lmE
    split
    · refine ⟨by omega, by omega, fun k hk => ?_⟩
      have := h k hk; omega
    · split
      · refine ⟨h4, by omega, fun k hk => ?_⟩
        by_cases e : k = n
        · subst e; omega
        · have := h3 k (by omega); omega
      · refine ⟨h1, h2, fun k hk => ?_⟩
        by_cases e : k = n
        · subst e; omega
        · exact h3 k (by omega)
theorem lmE_le (f : Nat → Int) : ∀ n, lmE f n ≤ 1000000
  | 0 => by unfold lmE; omega
  | n + 1 => by
    have h1 := lmE_le f n
    unfold lmE
    split
    · omega
    · split <;> omega
theorem lmE_at {f : Nat → Int} : ∀ n, lmE f n < 1000000 → ∃ k, k < n ∧ f k = lmE f n
  | 0, h => absurd h (by unfold lmE; omega)
  | n + 1, h => by
    unfold lmE at h ⊢
    by_cases c : lmE f n = 0
    · rw [if_pos c]
      obtain ⟨k, k1, k2⟩ := lmE_at (f := f) n (by omega)
      exact ⟨k, by omega, by omega⟩
    · rw [if_neg c] at h ⊢
      by_cases c2 : f n < lmE f n
      · rw [if_pos c2]; exact ⟨n, by omega, rfl⟩
      · rw [if_neg c2] at h ⊢
        obtain ⟨k, k1, k2⟩ := lmE_at n h
        exact ⟨k, by omega, k2⟩
noncomputable def fLf (m : Nat) (MI LI KE : Nat → Int) (gd : Nat → Bool) (MO L : Int) (Lf : Nat → Nat → Int) (s l k : Nat) : Int := if goB LI gd MO s l k && decide (mS MI m (s ||| 2 ^ k) ≤ L) then w32 (Lf (s ||| 2 ^ k) k + (if s = 0 then 0 else stM KE l k)) else 1000000
def rd96 (M : Mm) (s l : Nat) : Int := mg M 96 (10 * s + l)
/-- the row of what is left, from a set on -/
def LfO (m : Nat) (MI LI KE : Nat → Int) (gd : Nat → Bool) (MO L : Int) (S : Nat) (M : Mm) : Prop := ∀ s l, S ≤ s → s < 2 ^ m → l < 10 → rd96 M s l = if mS MI m s = L then 0 else lmE (fLf m MI LI KE gd MO L (rd96 M) s l) m
def W96 (c _x : Nat) : Prop := c = 96
section PRC
variable {m : Nat} {MI LI KE : Nat → Int} {gd : Nat → Bool} {M : Mm} {MO L : Int}
theorem goB_tb {s l k : Nat} (h : goB LI gd MO s l k = true) : s.testBit k = false := by
  unfold goB at h
  rw [Bool.and_eq_true, Bool.and_eq_true, Bool.not_eq_true'] at h
  exact h.1.1
theorem fLf_cg {Lf Lf' : Nat → Nat → Int} {s l k : Nat} (h : s.testBit k = false → Lf (s ||| 2 ^ k) k = Lf' (s ||| 2 ^ k) k) : fLf m MI LI KE gd MO L Lf s l k = fLf m MI LI KE gd MO L Lf' s l k := by
  unfold fLf
  cases e : goB LI gd MO s l k with
  | false => rfl
  | true => rw [h (goB_tb e)]
theorem m_left286 (h : RP m MI LI KE gd M) (hm : m ≤ 10) (hMI : ∀ k, k < m → 0 ≤ MI k ∧ MI k ≤ 60) {s l : Nat} (hs : s < 2 ^ m) (hl : l < 10) : loopN (l_Model_programme_286 M 80 MO L (s : Int) (l : Int)) FU (1000000, 0) = some (lmE (fLf m MI LI KE gd MO L (rd96 M) s l) m) := by
  have hpm := pow_m hm
  refine w_eq (wp_loop (fun j x => x = (lmE (fLf m MI LI KE gd MO L (rd96 M) s l) j, (j : Int))) m (by omega) rfl ?_)
  rintro j x hj rfl
  have ej : w32 ((j : Int) + 1) = ((j + 1 : Nat) : Int) := by rw [w32_s (by omega) (by omega)]; omega
  have hle := lmE_le (fLf m MI LI KE gd MO L (rd96 M) s l) j
  have st1 : lmE (fLf m MI LI KE gd MO L (rd96 M) s l) (j + 1) = if lmE (fLf m MI LI KE gd MO L (rd96 M) s l) j = 0 then 0 else if fLf m MI LI KE gd MO L (rd96 M) s l j < lmE (fLf m MI LI KE gd MO L (rd96 M) s l) j then fLf m MI LI KE gd MO L (rd96 M) s l j else lmE (fLf m MI LI KE gd MO L (rd96 M) s l) j := rfl
  unfold l_Model_programme_286
  simp only [lt, ej]
  rw [show mg M (cI 80) 7 = (m : Int) from h.2.1]
  refine wC (fun c => wSr ?_) (fun c => wC (fun c0 => wSr ?_) (fun c0 => ?_))
  · have : j = m := by omega
    subst this; rfl
  · rw [lmE_0 c0 m hj]; exact c0
  have hj' : j < m := by omega
  rw [if_neg c0] at st1
  refine wX (m_goes h hm (show s < 1024 by omega) hl hj') ?_
  cases eg : goB LI gd MO s l j with
  | false =>
    refine wI (by rfl) (wSl ⟨hj', ?_⟩)
    have e2 : fLf m MI LI KE gd MO L (rd96 M) s l j = 1000000 := by unfold fLf; rw [eg]; rfl
    rw [st1, e2, if_neg (by omega)]
  | true =>
    have g1 := goB_tb eg
    have h2j : (2 ^ j : Nat) < 2 ^ m := two_lt hj'
    have hol : s ||| 2 ^ j < 2 ^ m := Nat.or_lt_two_pow hs h2j
    rw [bShl_1 j (by omega), bOr_n (by omega) (by omega)]
    refine wE (by decide) (wX (m_sumOf h hm hMI (show s ||| 2 ^ j < 1024 by omega)) (wC (fun c1 => ?_) (fun c1 => wSl ⟨hj', ?_⟩)))
    · have w1 : w32 (10 * ((s ||| 2 ^ j : Nat) : Int)) = 10 * ((s ||| 2 ^ j : Nat) : Int) := w32_s (by omega) (by omega)
      have w2 : w32 (10 * ((s ||| 2 ^ j : Nat) : Int) + (j : Int)) = 10 * ((s ||| 2 ^ j : Nat) : Int) + (j : Int) := w32_s (by omega) (by omega)
      have t1 : (10 * ((s ||| 2 ^ j : Nat) : Int) + (j : Int)).toNat = 10 * (s ||| 2 ^ j) + j := by omega
      rw [show mg M (cI 80) 21 = 97 from p_79_21 h.1, show cI 97 = 96 from rfl, n_96 h.1, w1, w2, t1]
      have tail : ∀ y : Int, y = (if s = 0 then 0 else stM KE l j) → wp (j_Model_programme_368_286 M 80 MO L (s : Int) (l : Int) (lmE (fLf m MI LI KE gd MO L (rd96 M) s l) j) (j : Int) y (mg M 96 (10 * (s ||| 2 ^ j) + j))) (Sum.elim (fun x' => j < m ∧ x' = (lmE (fLf m MI LI KE gd MO L (rd96 M) s l) (j + 1), ((j + 1 : Nat) : Int))) (fun t => t = lmE (fLf m MI LI KE gd MO L (rd96 M) s l) m)) := by
        intro y hy
        have e2 : fLf m MI LI KE gd MO L (rd96 M) s l j = w32 (mg M 96 (10 * (s ||| 2 ^ j) + j) + y) := by
          unfold fLf rd96; rw [eg, decide_eq_true c1, hy]; rfl
        rw [e2] at st1
        unfold j_Model_programme_368_286
        simp only [lt, ej]
        refine wC (fun c2 => wSl ⟨hj', ?_⟩) (fun c2 => wSl ⟨hj', ?_⟩)
        · rw [st1, if_neg (by omega)]
        · rw [st1, if_pos (by omega)]
      refine wI (by decide) (wI (by omega) (wC (fun c2 => wX (m_strainOf h hl (by omega)) (tail _ ?_)) (fun c2 => tail _ ?_)))
      · rw [if_neg (by omega)]
      · rw [if_pos (by omega)]
    · have e2 : fLf m MI LI KE gd MO L (rd96 M) s l j = 1000000 := by
        unfold fLf; rw [eg, decide_eq_false (by omega)]; rfl
      rw [st1, e2, if_neg (by omega)]
theorem sh_96 {M M' : Mm} (h : RP m MI LI KE gd M) (f : Fr W96 M M') : RP m MI LI KE gd M' := RP_fr h f (fun c k w => by unfold W96 at w; unfold isP; omega)
theorem m_left249 (h : RP m MI LI KE gd M) (hm : m ≤ 10) (hMI : ∀ k, k < m → 0 ≤ MI k ∧ MI k ≤ 60) : wp (loopN (l_Model_programme_249 80 MO L) FU (((2 ^ m : Nat) : Int) - 1, M)) (fun M' => Fr W96 M M' ∧ LfO m MI LI KE gd MO L 0 M') := by
  have hpm := pow_m hm
  have hp1 := pow_1 m
  refine wp_loop (fun j x => x.1 = ((2 ^ m : Nat) : Int) - 1 - (j : Int) ∧ Fr W96 M x.2 ∧ LfO m MI LI KE gd MO L (2 ^ m - j) x.2) (2 ^ m) (by omega) ⟨by simp, Fr_rf, fun s l h1 h2 => by omega⟩ ?_
  rintro j ⟨x, M1⟩ hj ⟨e, hf, hO⟩
  simp only at e hf hO
  subst e
  unfold l_Model_programme_249
  simp only []
  refine wC (fun c => wSr ⟨hf, ?_⟩) (fun c => ?_)
  · rw [show (0 : Nat) = 2 ^ m - j by omega]; exact hO
  obtain ⟨s, hs⟩ : ∃ s, s + j + 1 = 2 ^ m := ⟨2 ^ m - (j + 1), by omega⟩
  rw [show ((2 ^ m : Nat) : Int) - 1 - (j : Int) = (s : Int) by omega]
  rw [show 2 ^ m - j = s + 1 by omega] at hO
  refine wK (wp_loop (fun l x => x.1 = (l : Int) ∧ Fr W96 M x.2 ∧ LfO m MI LI KE gd MO L (s + 1) x.2 ∧ ∀ l', l' < l → rd96 x.2 s l' = if mS MI m s = L then 0 else lmE (fLf m MI LI KE gd MO L (rd96 x.2) s l') m) 10 (Q := fun M' => Fr W96 M M' ∧ LfO m MI LI KE gd MO L s M') (by decide) ⟨rfl, hf, hO, fun l' hl' => absurd hl' (Nat.not_lt_zero _)⟩ ?_) ?_
  · rintro l ⟨x, M2⟩ hl ⟨e, hf2, hO2, hl2⟩
    simp only at e hf2 hO2 hl2
    subst e
    have h2 := sh_96 h hf2
    unfold l_Model_programme_257
    simp only []
    refine wC (fun c => wSr ⟨hf2, fun s' l' h3 h4 h5 => ?_⟩) (fun c => ?_)
    · by_cases e : s' = s
      · subst e; exact hl2 l' (by omega)
      · exact hO2 s' l' (by omega) h4 h5
    have hl' : l < 10 := by omega
    have w1 : w32 (10 * (s : Int)) = 10 * (s : Int) := w32_s (by omega) (by omega)
    have w2 : w32 (10 * (s : Int) + (l : Int)) = 10 * (s : Int) + (l : Int) := w32_s (by omega) (by omega)
    have t1 : (10 * (s : Int) + (l : Int)).toNat = 10 * s + l := by omega
    have el : w32 ((l : Int) + 1) = ((l + 1 : Nat) : Int) := by rw [w32_s (by omega) (by omega)]; omega
    have fin : ∀ y, y = (if mS MI m s = L then 0 else lmE (fLf m MI LI KE gd MO L (rd96 M2) s l) m) → wp (j_Model_programme_417_257 M2 80 MO L (s : Int) (l : Int) y (w32 (w32 (10 * (s : Int)) + (l : Int))) (mg M2 (cI 80) 21)) (Sum.elim (fun x' => l < 10 ∧ x'.1 = ((l + 1 : Nat) : Int) ∧ Fr W96 M x'.2 ∧ LfO m MI LI KE gd MO L (s + 1) x'.2 ∧ ∀ l', l' < l + 1 → rd96 x'.2 s l' = if mS MI m s = L then 0 else lmE (fLf m MI LI KE gd MO L (rd96 x'.2) s l') m) (fun M' => Fr W96 M M' ∧ LfO m MI LI KE gd MO L s M')) := by
      intro y hy
      unfold j_Model_programme_417_257
      rw [w1, w2, show mg M2 (cI 80) 21 = 97 from p_79_21 h2.1, show cI 97 = 96 from rfl, n_96 h2.1, t1]
      have hcg : ∀ s' l', s ≤ s' → s' < 2 ^ m → lmE (fLf m MI LI KE gd MO L (rd96 (mp M2 96 (10 * s + l) y)) s' l') m = lmE (fLf m MI LI KE gd MO L (rd96 M2) s' l') m := fun s' l' h3 h4 => lmE_cg m (fun k hk => fLf_cg (fun htb => by
        have := or_gt htb
        unfold rd96
        rw [mg_mp, if_neg (by omega)]))
      refine wI (by decide) (wI (by omega) (wL (wL (wSl ⟨hl', el, Fr_wr hf2 rfl, fun s' l' h3 h4 h5 => ?_, fun l' h3 => ?_⟩))))
      · rw [hcg s' l' (by omega) h4]
        show mg (mp M2 96 (10 * s + l) y) 96 (10 * s' + l') = _
        rw [mg_mp, if_neg (by omega)]
        exact hO2 s' l' h3 h4 h5
      · rw [hcg s l' (Nat.le_refl _) (by omega)]
        show mg (mp M2 96 (10 * s + l) y) 96 (10 * s + l') = _
        rw [mg_mp]
        by_cases e : l' = l
        · subst e
          rw [if_pos ⟨rfl, rfl⟩, hy]
        · rw [if_neg (by omega)]
          exact hl2 l' (by omega)
    refine wX (m_sumOf h2 hm hMI (show s < 1024 by omega)) ?_
    by_cases cL : mS MI m s = L
    · rw [if_pos cL] at fin
      refine wE (fun e => e cL) ?_
      unfold j_Model_programme_281_257
      refine wX (a := 0) ?_ ?_
      · refine w_eq (wp_loop (fun j x => x = (0, (j : Int)) ∧ j = 0) 1 (by decide) ⟨rfl, rfl⟩ ?_)
        rintro j x _ ⟨rfl, rfl⟩
        unfold l_Model_programme_286
        simp only []
        exact wC (fun _ => wSr rfl) (fun _ => wI trivial (wSr rfl))
      · unfold j_Model_programme_388_257
        refine wX (m_sumOf h2 hm hMI (show s < 1024 by omega)) (wE (fun e => e cL) (fin 0 rfl))
    · rw [if_neg cL] at fin
      refine wI cL ?_
      unfold j_Model_programme_281_257
      refine wX (m_left286 h2 hm hMI (by omega) hl') ?_
      unfold j_Model_programme_388_257
      exact wX (m_sumOf h2 hm hMI (show s < 1024 by omega)) (wI cL (fin _ rfl))
  · intro M2 hM2
    refine wL (wSl ⟨by omega, ?_, hM2.1, ?_⟩)
    · rw [w32_s (by omega) (by omega)]; simp only; omega
    · rw [show 2 ^ m - (j + 1) = s by omega]; exact hM2.2
/-! what it says of rows -/
def lsO (r : Nat → Nat) : Nat → Nat
  | 0 => 0
  | i + 1 => r i
def stI (KE : Nat → Int) (r : Nat → Nat) : Nat → Int
  | 0 => 0
  | i + 1 => kgp KE (r i) (r (i + 1))
variable (hm : m ≤ 10) (hMI : ∀ k, k < m → 1 ≤ MI k ∧ MI k ≤ 60) (hLI : ∀ k, k < m → 0 ≤ LI k ∧ LI k ≤ 9) (hKE : ∀ k, k < m → 0 ≤ KE k ∧ KE k ≤ 11)
theorem lf_b (hm : m ≤ 10) (hKE : ∀ k, k < m → 0 ≤ KE k ∧ KE k ≤ 11) (hO : LfO m MI LI KE gd MO L 0 M) : ∀ q s l, s + q = 2 ^ m → 1 ≤ q → (l < m ∨ (s = 0 ∧ l = 0)) → 0 ≤ rd96 M s l ∧ rd96 M s l ≤ 1000000 := by
  have hpm := pow_m hm
  intro q
  induction q using Nat.strongRecOn with
  | _ q ih =>
    intro s l hq h1 hl
    rw [hO s l (Nat.zero_le _) (by omega) (by omega)]
    split
    · omega
    · have hf : ∀ k, k < m → 0 ≤ fLf m MI LI KE gd MO L (rd96 M) s l k := fun k hk => by
        unfold fLf
        split
        · rename_i hc
          rw [Bool.and_eq_true] at hc
          have g1 := goB_tb hc.1
          have hgt := or_gt g1
          have hol : s ||| 2 ^ k < 2 ^ m := Nat.or_lt_two_pow (by omega) (two_lt hk)
          have := ih (2 ^ m - (s ||| 2 ^ k)) (by omega) (s ||| 2 ^ k) k (by omega) (by omega) (Or.inl hk)
          have hst : 0 ≤ (if s = 0 then 0 else stM KE l k) ∧ (if s = 0 then 0 else stM KE l k) ≤ 6 := by
            split
            · omega
            · rename_i h0
              have hlm : l < m := by rcases hl with h | h; exact h; exact absurd h.1 h0
              rw [stM_eq hKE hlm hk]; exact kgp_b hKE hlm hk
          rw [w32_s (by omega) (by omega)]; omega
        · omega
      exact ⟨(lmE_b m hf).1, (lmE_b m hf).2.1⟩
/-- the step's worth, as a plain number -/
theorem lf_val (hm : m ≤ 10) (hKE : ∀ k, k < m → 0 ≤ KE k ∧ KE k ≤ 11) (hO : LfO m MI LI KE gd MO L 0 M) {r : Nat → Nat} {i : Nat} (hr : ∀ j, j < i → r j < m) {k : Nat} (hk : k < m) (hg : goB LI gd MO (rS r i) (lsO r i) k = true) (hw : mS MI m (rS r i ||| 2 ^ k) ≤ L) : fLf m MI LI KE gd MO L (rd96 M) (rS r i) (lsO r i) k = rd96 M (rS r i ||| 2 ^ k) k + (if i = 0 then 0 else kgp KE (lsO r i) k) := by
  have hpm := pow_m hm
  have g1 := goB_tb hg
  have hsl : rS r i < 2 ^ m := rS_lt i hr
  have hol : rS r i ||| 2 ^ k < 2 ^ m := Nat.or_lt_two_pow hsl (two_lt hk)
  have hb := lf_b hm hKE hO (2 ^ m - (rS r i ||| 2 ^ k)) (rS r i ||| 2 ^ k) k (by omega) (by omega) (Or.inl hk)
  unfold fLf
  rw [hg, decide_eq_true hw]
  show w32 (rd96 M (rS r i ||| 2 ^ k) k + (if rS r i = 0 then 0 else stM KE (lsO r i) k)) = _
  cases i with
  | zero =>
    show w32 (rd96 M (0 ||| 2 ^ k) k + (if (0 : Nat) = 0 then 0 else stM KE 0 k)) = rd96 M (0 ||| 2 ^ k) k + 0
    have hb : 0 ≤ rd96 M (0 ||| 2 ^ k) k ∧ rd96 M (0 ||| 2 ^ k) k ≤ 1000000 := hb
    rw [if_pos rfl, w32_s (by omega) (by omega)]
  | succ i =>
    have hs0 : rS r (i + 1) ≠ 0 := fun e => by
      have := (rS_tb r (r i) (i + 1)).mpr ⟨i, by omega, rfl⟩
      rw [e, Nat.zero_testBit] at this; cases this
    have hlm : r i < m := hr i (by omega)
    have hkb := kgp_b hKE hlm hk
    rw [if_neg hs0, if_neg (by omega)]
    show w32 (_ + stM KE (r i) k) = _ + kgp KE (r i) k
    rw [stM_eq hKE hlm hk, w32_s (by omega) (by omega)]
theorem lf_nn (hm : m ≤ 10) (hKE : ∀ k, k < m → 0 ≤ KE k ∧ KE k ≤ 11) (hO : LfO m MI LI KE gd MO L 0 M) {r : Nat → Nat} {i : Nat} (hr : ∀ j, j < i → r j < m) : ∀ k, k < m → 0 ≤ fLf m MI LI KE gd MO L (rd96 M) (rS r i) (lsO r i) k := fun k hk => by
  have hpm := pow_m hm
  by_cases c : goB LI gd MO (rS r i) (lsO r i) k = true ∧ mS MI m (rS r i ||| 2 ^ k) ≤ L
  · rw [lf_val hm hKE hO hr hk c.1 c.2]
    have hol : rS r i ||| 2 ^ k < 2 ^ m := Nat.or_lt_two_pow (rS_lt i hr) (two_lt hk)
    have hb := lf_b hm hKE hO (2 ^ m - (rS r i ||| 2 ^ k)) (rS r i ||| 2 ^ k) k (by omega) (by omega) (Or.inl hk)
    cases i with
    | zero => rw [if_pos rfl]; omega
    | succ i =>
      have hkb := kgp_b hKE (hr i (by omega)) hk
      rw [if_neg (by omega)]
      show 0 ≤ _ + kgp KE (r i) k
      omega
  · unfold fLf
    split
    · rename_i h
      rw [Bool.and_eq_true, decide_eq_true_iff] at h
      exact absurd h c
    · omega
/-- a row goes on: the reference may take its next piece -/
theorem vr_goes (hLI : ∀ k, k < m → 0 ≤ LI k ∧ LI k ≤ 9) {r : Nat → Nat} {len i : Nat} (hv : VR m gd LI MO len r) (hi : i < len) : goB LI gd MO (rS r i) (lsO r i) (r i) = true := by
  have h0 := hv.1 i hi
  have hno : (rS r i).testBit (r i) = false := by
    cases e : (rS r i).testBit (r i) with
    | false => rfl
    | true =>
      obtain ⟨j, j1, j2⟩ := (rS_tb r _ _).mp e
      have := hv.2.1 j i (by omega) hi j2
      omega
  cases i with
  | zero => exact (goB_iff (MO := MO) (l := 0) hLI (Or.inr rfl) h0.1).mpr ⟨hno, h0.2, fun e => absurd rfl e⟩
  | succ i => exact (goB_iff (MO := MO) hLI (Or.inl (hv.1 i (by omega)).1) h0.1).mpr ⟨hno, h0.2, fun _ => hv.2.2 i hi⟩
theorem vr_sum {r : Nat → Nat} {len : Nat} (hMI : ∀ k, k < m → 1 ≤ MI k ∧ MI k ≤ 60) (hv : VR m gd LI MO len r) : ∀ q i, i + q = len → mS MI m (rS r i) ≤ mS MI m (rS r len)
  | 0, i, h => by rw [show i = len by omega]; exact Int.le_refl _
  | q + 1, i, h => by
    have h1 := vr_sum hMI hv q (i + 1) (by omega)
    have h0 := hv.1 i (by omega)
    have hno : (rS r i).testBit (r i) = false := by
      cases e : (rS r i).testBit (r i) with
      | false => rfl
      | true =>
        obtain ⟨j, j1, j2⟩ := (rS_tb r _ _).mp e
        have := hv.2.1 j i (by omega) (by omega) j2
        omega
    have hadd : mS MI m (rS r (i + 1)) = mS MI m (rS r i) + MI (r i) := mS_add m h0.1 hno
    have := hMI _ h0.1
    omega
/-- no row of the longest has less strain ahead -/
theorem lf_le (hm : m ≤ 10) (hMI : ∀ k, k < m → 1 ≤ MI k ∧ MI k ≤ 60) (hLI : ∀ k, k < m → 0 ≤ LI k ∧ LI k ≤ 9) (hKE : ∀ k, k < m → 0 ≤ KE k ∧ KE k ≤ 11) (hO : LfO m MI LI KE gd MO L 0 M) {r : Nat → Nat} {len : Nat} (hv : VR m gd LI MO len r) (hT : mS MI m (rS r len) = L) : ∀ q i, i + q = len → rd96 M (rS r i) (lsO r i) ≤ sfx (stI KE r) i q ∧ 0 ≤ sfx (stI KE r) i q
  | 0, i, h => by
    have hi : i = len := by omega
    have hpm := pow_m hm
    have hlen := VR_len hv
    have hls : lsO r i < 10 := by
      cases i with
      | zero => exact (by decide : 0 < 10)
      | succ i => have := (hv.1 i (by omega)).1; show r i < 10; omega
    rw [hO (rS r i) (lsO r i) (Nat.zero_le _) (rS_lt i (fun j hj => (hv.1 j (by omega)).1)) hls, hi, if_pos hT]
    exact ⟨Int.le_refl 0, Int.le_refl 0⟩
  | q + 1, i, h => by
    obtain ⟨h1, h2⟩ := lf_le hm hMI hLI hKE hO hv hT q (i + 1) (by omega)
    have hr : ∀ j, j < i → r j < m := fun j hj => (hv.1 j (by omega)).1
    have h0 := hv.1 i (by omega)
    have hst : 0 ≤ stI KE r i := by
      cases i with
      | zero => exact Int.le_refl 0
      | succ i => exact (kgp_b hKE (hv.1 i (by omega)).1 h0.1).1
    have hs : sfx (stI KE r) i (q + 1) = stI KE r i + sfx (stI KE r) (i + 1) q := rfl
    have hls : lsO r i < 10 := by
      cases i with
      | zero => exact (by decide : 0 < 10)
      | succ i => have := (hv.1 i (by omega)).1; show r i < 10; omega
    rw [hO (rS r i) (lsO r i) (Nat.zero_le _) (rS_lt i hr) hls]
    split
    · omega
    · have hw : mS MI m (rS r i ||| 2 ^ r i) ≤ L := by rw [← hT]; exact vr_sum hMI hv q (i + 1) (by omega)
      have hg := vr_goes hLI hv (show i < len by omega)
      have h3 := (lmE_b m (lf_nn hm hKE hO hr)).2.2 (r i) h0.1
      rw [lf_val hm hKE hO hr h0.1 hg hw] at h3
      have e1 : (if i = 0 then 0 else kgp KE (lsO r i) (r i)) = stI KE r i := by
        cases i with
        | zero => rfl
        | succ i => rfl
      rw [e1] at h3
      have h1 : rd96 M (rS r i ||| 2 ^ r i) (r i) ≤ _ := h1
      omega
end PRC
