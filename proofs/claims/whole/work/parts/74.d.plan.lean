/-! the reference's plan -/
/-- what a set and its last piece may take next without loss -/
def FitQ (m : Nat) (MI LI KE : Nat → Int) (gd : Nat → Bool) (MO L : Int) (M : Mm) (r : Nat → Nat) (i k : Nat) : Prop := k < m ∧ goB LI gd MO (rS r i) (lsO r i) k = true ∧ mS MI m (rS r i ||| 2 ^ k) ≤ L ∧ rd96 M (rS r i ||| 2 ^ k) k + (if i = 0 then 0 else kgp KE (lsO r i) k) = rd96 M (rS r i) (lsO r i)
/-- of all rows of the longest the least strain, and of these the first -/
def PlB (m : Nat) (MI LI KE : Nat → Int) (gd : Nat → Bool) (MO WH L : Int) (len : Nat) (g : Nat → Nat) : Prop := VR m gd LI MO len g ∧ sumN (fun i => MI (g i)) len = L ∧ L ≤ WH ∧ (∀ r lr, VR m gd LI MO lr r → sumN (fun i => MI (r i)) lr ≤ WH → sumN (fun i => MI (r i)) lr ≤ L) ∧ ∀ r lr, VR m gd LI MO lr r → sumN (fun i => MI (r i)) lr = L → sumN (stI KE g) len ≤ sumN (stI KE r) lr ∧ (sumN (stI KE r) lr = sumN (stI KE g) len → ∀ i, i < lr → i < len → (∀ j, j < i → r j = g j) → g i ≤ r i)
def W95 (c x : Nat) : Prop := (c = 79 ∧ x = 18) ∨ c = 95
section PRD
variable {m : Nat} {MI LI KE : Nat → Int} {gd : Nat → Bool} {M : Mm} {MO WH L : Int}
theorem vr_ms {len : Nat} {r : Nat → Nat} (hv : VR m gd LI MO len r) : mS MI m (rS r len) = sumN (fun i => MI (r i)) len := mS_row len (fun i hi => (hv.1 i hi).1) hv.2.1
theorem sh_95 {M M' : Mm} (h : RP m MI LI KE gd M) (f : Fr W95 M M') : RP m MI LI KE gd M' := RP_fr h f (fun c k w => by unfold W95 at w; unfold isP; omega)
theorem ls_lt (hm : m ≤ 10) {r : Nat → Nat} {i : Nat} (hr : ∀ j, j < i → r j < m) : lsO r i < 10 := by
  cases i with
  | zero => exact (by decide : 0 < 10)
  | succ i => have := hr i (by omega); show r i < 10; omega
theorem m_plan465 (h : RP m MI LI KE gd M) (hm : m ≤ 10) (hMI : ∀ k, k < m → 1 ≤ MI k ∧ MI k ≤ 60) (hKE : ∀ k, k < m → 0 ≤ KE k ∧ KE k ≤ 11) (hO : LfO m MI LI KE gd MO L 0 M) {r : Nat → Nat} {i : Nat} (hr : ∀ j, j < i → r j < m) (hex : ∃ k, FitQ m MI LI KE gd MO L M r i k) : wp (loopN (l_Model_programme_465 M 80 MO L (rS r i : Int) (lsO r i : Int)) FU 0) (fun t => ∃ k : Nat, t = (k : Int) ∧ FitQ m MI LI KE gd MO L M r i k ∧ ∀ q, q < k → ¬ FitQ m MI LI KE gd MO L M r i q) := by
  have hpm := pow_m hm
  have hsl : rS r i < 2 ^ m := rS_lt i hr
  have hls := ls_lt hm hr
  obtain ⟨k0, hk0⟩ := hex
  refine wp_loop (fun j x => x = (j : Int) ∧ ∀ q, q < j → ¬ FitQ m MI LI KE gd MO L M r i q) k0 (by have := hk0.1; omega) ⟨rfl, fun q hq => absurd hq (Nat.not_lt_zero _)⟩ ?_
  rintro j x hj ⟨rfl, hno⟩
  have hjm : j < m := by have := hk0.1; omega
  have ej : w32 ((j : Int) + 1) = ((j + 1 : Nat) : Int) := by rw [w32_s (by omega) (by omega)]; omega
  have go : ¬ FitQ m MI LI KE gd MO L M r i j → wp (some (.inl (w32 ((j : Int) + 1))) : Option (Int ⊕ Int)) (Sum.elim (fun x' => j < k0 ∧ x' = ((j + 1 : Nat) : Int) ∧ ∀ q, q < j + 1 → ¬ FitQ m MI LI KE gd MO L M r i q) (fun t => ∃ k : Nat, t = (k : Int) ∧ FitQ m MI LI KE gd MO L M r i k ∧ ∀ q, q < k → ¬ FitQ m MI LI KE gd MO L M r i q)) := fun hn => by
    refine wSl ⟨?_, ej, fun q hq => ?_⟩
    · rcases Nat.lt_or_ge j k0 with h9 | h9
      · exact h9
      · have : j = k0 := by omega
        subst this; exact absurd hk0 hn
    · by_cases e : q = j
      · rw [e]; exact hn
      · exact hno q (by omega)
  unfold l_Model_programme_465
  refine wX (m_goes h hm (show rS r i < 1024 by omega) hls hjm) ?_
  cases eg : goB LI gd MO (rS r i) (lsO r i) j with
  | false => exact wI (by rfl) (wL (go (fun hf => by have hf := hf.2.1; rw [eg] at hf; cases hf)))
  | true =>
    have h2j : (2 ^ j : Nat) < 2 ^ m := two_lt hjm
    have hol : rS r i ||| 2 ^ j < 2 ^ m := Nat.or_lt_two_pow hsl h2j
    rw [bShl_1 j (by omega), bOr_n (by omega) (by omega)]
    refine wE (by decide) (wX (m_sumOf h hm (fun k hk => by have := hMI k hk; omega) (show rS r i ||| 2 ^ j < 1024 by omega)) (wC (fun c1 => wL (go (fun hf => by have := hf.2.2.1; omega))) (fun c1 => ?_)))
    have w1 : w32 (10 * ((rS r i ||| 2 ^ j : Nat) : Int)) = 10 * ((rS r i ||| 2 ^ j : Nat) : Int) := w32_s (by omega) (by omega)
    have w2 : w32 (10 * ((rS r i ||| 2 ^ j : Nat) : Int) + (j : Int)) = 10 * ((rS r i ||| 2 ^ j : Nat) : Int) + (j : Int) := w32_s (by omega) (by omega)
    have t1 : (10 * ((rS r i ||| 2 ^ j : Nat) : Int) + (j : Int)).toNat = 10 * (rS r i ||| 2 ^ j) + j := by omega
    have w3 : w32 (10 * (rS r i : Int)) = 10 * (rS r i : Int) := w32_s (by omega) (by omega)
    have w4 : w32 (10 * (rS r i : Int) + (lsO r i : Int)) = 10 * (rS r i : Int) + (lsO r i : Int) := w32_s (by omega) (by omega)
    have t2 : (10 * (rS r i : Int) + (lsO r i : Int)).toNat = 10 * rS r i + lsO r i := by omega
    have hb := lf_b hm hKE hO (2 ^ m - (rS r i ||| 2 ^ j)) (rS r i ||| 2 ^ j) j (by omega) (by omega) (Or.inl hjm)
    rw [show mg M (cI 80) 21 = 97 from p_79_21 h.1, show cI 97 = 96 from rfl, n_96 h.1, w1, w2, t1]
    have tail : ∀ y : Int, y = (if i = 0 then 0 else kgp KE (lsO r i) j) → 0 ≤ y ∧ y ≤ 6 → wp (j_Model_programme_530_465 M 80 MO L (rS r i : Int) (lsO r i : Int) (j : Int) y (mg M 96 (10 * (rS r i ||| 2 ^ j) + j))) (Sum.elim (fun x' => j < k0 ∧ x' = ((j + 1 : Nat) : Int) ∧ ∀ q, q < j + 1 → ¬ FitQ m MI LI KE gd MO L M r i q) (fun t => ∃ k : Nat, t = (k : Int) ∧ FitQ m MI LI KE gd MO L M r i k ∧ ∀ q, q < k → ¬ FitQ m MI LI KE gd MO L M r i q)) := by
      intro y hy hyb
      have hb' : 0 ≤ mg M 96 (10 * (rS r i ||| 2 ^ j) + j) ∧ mg M 96 (10 * (rS r i ||| 2 ^ j) + j) ≤ 1000000 := hb
      unfold j_Model_programme_530_465
      rw [show mg M (cI 80) 21 = 97 from p_79_21 h.1, show cI 97 = 96 from rfl, n_96 h.1, w3, w4, t2, w32_s (x := mg M 96 (10 * (rS r i ||| 2 ^ j) + j) + y) (by omega) (by omega)]
      refine wI (by decide) (wI (by omega) (wC (fun c2 => wSr ⟨j, rfl, ⟨hjm, eg, by omega, ?_⟩, hno⟩) (fun c2 => wL (go (fun hf => c2 ?_)))))
      · unfold rd96; rw [← hy]; exact c2
      · have := hf.2.2.2
        unfold rd96 at this; rw [← hy] at this; exact this
    refine wI (by decide) (wI (by omega) ?_)
    cases i with
    | zero => exact wE (by simp [rS]) (tail 0 rfl (by omega))
    | succ i =>
      have hs0 : rS r (i + 1) ≠ 0 := fun e => by
        have := (rS_tb r (r i) (i + 1)).mpr ⟨i, by omega, rfl⟩
        rw [e, Nat.zero_testBit] at this; cases this
      have hlm : r i < m := hr i (by omega)
      have hkb := kgp_b hKE hlm hjm
      refine wI (by omega) (wX (m_strainOf h hls (by omega)) ?_)
      show wp (j_Model_programme_530_465 M 80 MO L (rS r (i + 1) : Int) (lsO r (i + 1) : Int) (j : Int) (stM KE (r i) j) _) _
      rw [stM_eq hKE hlm hjm]
      exact tail _ (by rw [if_neg (by omega)]; rfl) hkb
theorem m_plan451 (h : RP m MI LI KE gd M) (hm : m ≤ 10) (hMI : ∀ k, k < m → 1 ≤ MI k ∧ MI k ≤ 60) (hLI : ∀ k, k < m → 0 ≤ LI k ∧ LI k ≤ 9) (hKE : ∀ k, k < m → 0 ≤ KE k ∧ KE k ≤ 11) (hO : LfO m MI LI KE gd MO L 0 M) (hL0 : 0 ≤ L) (hat : ∃ (r : Nat → Nat) (len : Nat), VR m gd LI MO len r ∧ mS MI m (rS r len) = L) (h18 : mg M 79 18 = 0) : wp (loopN (l_Model_programme_451 80 MO L) FU (0, 0, M)) (fun M' => ∃ (len : Nat) (g : Nat → Nat), VR m gd LI MO len g ∧ mS MI m (rS g len) = L ∧ rd96 M 0 0 = sumN (stI KE g) len ∧ (∀ i, i < len → ∀ q, q < g i → ¬ FitQ m MI LI KE gd MO L M g i q) ∧ (∀ i, i < len → rd96 M (rS g i) (lsO g i) + sumN (stI KE g) i = rd96 M 0 0) ∧ Fr W95 M M' ∧ mg M' 79 18 = (len : Int) ∧ ∀ i, i < len → mg M' 95 i = (g i : Int)) := by
  have hpm := pow_m hm
  have hp1 := pow_1 m
  obtain ⟨r0, l0, hv0, hT0⟩ := hat
  have hfin : rd96 M 0 0 < 1000000 := by
    have h1 := (lf_le hm hMI hLI hKE hO hv0 hT0 l0 0 (by omega)).1
    have h1 : rd96 M 0 0 ≤ sfx (stI KE r0) 0 l0 := h1
    have hlen := VR_len hv0
    have h2 := (sfx_bd (f := stI KE r0) (b := 6) (by omega) l0 0 (fun j _ hj => by
      cases j with
      | zero => exact ⟨Int.le_refl 0, (by decide : (0 : Int) ≤ 6)⟩
      | succ j => exact kgp_b hKE (hv0.1 j (by omega)).1 (hv0.1 (j + 1) (by omega)).1)).2
    omega
  refine wp_loop (fun j x => ∃ g : Nat → Nat, VR m gd LI MO j g ∧ x.1 = (rS g j : Int) ∧ x.2.1 = (lsO g j : Int) ∧ mS MI m (rS g j) ≤ L ∧ rd96 M (rS g j) (lsO g j) + sumN (stI KE g) j = rd96 M 0 0 ∧ 0 ≤ sumN (stI KE g) j ∧ (∀ i, i < j → ∀ q, q < g i → ¬ FitQ m MI LI KE gd MO L M g i q) ∧ (∀ i, i < j → rd96 M (rS g i) (lsO g i) + sumN (stI KE g) i = rd96 M 0 0) ∧ Fr W95 M x.2.2 ∧ mg x.2.2 79 18 = (j : Int) ∧ ∀ i, i < j → mg x.2.2 95 i = (g i : Int)) 10 (by decide) ⟨fun _ => 0, ⟨fun i hi => absurd hi (Nat.not_lt_zero _), fun i j hi => absurd hi (Nat.not_lt_zero _), fun i hi => absurd hi (Nat.not_lt_zero _)⟩, rfl, rfl, by rw [show rS (fun _ => 0) 0 = 0 from rfl, mS_0]; exact hL0, by show rd96 M 0 0 + 0 = _; omega, Int.le_refl 0, fun i hi => absurd hi (Nat.not_lt_zero _), fun i hi => absurd hi (Nat.not_lt_zero _), Fr_rf, h18, fun i hi => absurd hi (Nat.not_lt_zero _)⟩ ?_
  rintro j ⟨xs, xl, M1⟩ hj ⟨g, hv, e1, e2, hle, hsum, hs0, hfit, hpre, hf, h18', h95⟩
  simp only at e1 e2 hf h18' h95
  subst e1 e2
  have h1 := sh_95 h hf
  have hr : ∀ i, i < j → g i < m := fun i hi => (hv.1 i hi).1
  have hsl : rS g j < 2 ^ m := rS_lt j hr
  have hls := ls_lt hm hr
  have hlen := VR_len hv
  have rdeq : ∀ s l, rd96 M1 s l = rd96 M s l := fun s l => hf.1 96 _ (by unfold W95; omega)
  have hO1 : LfO m MI LI KE gd MO L 0 M1 := by
    have e : rd96 M1 = rd96 M := funext (fun s => funext (fun l => rdeq s l))
    unfold LfO; rw [e]; exact hO
  have fq : ∀ (i k : Nat), FitQ m MI LI KE gd MO L M1 g i k ↔ FitQ m MI LI KE gd MO L M g i k := fun i k => by unfold FitQ; rw [rdeq, rdeq]
  unfold l_Model_programme_451
  simp only []
  refine wX (m_sumOf h1 hm (fun k hk => by have := hMI k hk; omega) (show rS g j < 1024 by omega)) (wC (fun c => wSr ⟨j, g, hv, by omega, ?_, hfit, hpre, hf, h18', h95⟩) (fun c => ?_))
  · have : rd96 M (rS g j) (lsO g j) = 0 := by
      rw [hO (rS g j) (lsO g j) (Nat.zero_le _) hsl hls, if_pos (by omega)]
    omega
  -- some piece goes on without loss
  have hcur := hO (rS g j) (lsO g j) (Nat.zero_le _) hsl hls
  rw [if_neg (by omega)] at hcur
  obtain ⟨k, k1, k2⟩ := lmE_at (f := fLf m MI LI KE gd MO L (rd96 M) (rS g j) (lsO g j)) m (by omega)
  have hkg : goB LI gd MO (rS g j) (lsO g j) k = true ∧ mS MI m (rS g j ||| 2 ^ k) ≤ L := by
    rcases Classical.em (goB LI gd MO (rS g j) (lsO g j) k = true ∧ mS MI m (rS g j ||| 2 ^ k) ≤ L) with h9 | h9
    · exact h9
    · have : fLf m MI LI KE gd MO L (rd96 M) (rS g j) (lsO g j) k = 1000000 := by
        unfold fLf
        rw [if_neg (fun e => h9 (by rw [Bool.and_eq_true, decide_eq_true_iff] at e; exact e))]
      omega
  have hex : ∃ k, FitQ m MI LI KE gd MO L M1 g j k := ⟨k, (fq j k).mpr ⟨k1, hkg.1, hkg.2, by rw [← lf_val hm hKE hO hr k1 hkg.1 hkg.2, k2, ← hcur]⟩⟩
  refine wK (m_plan465 h1 hm hMI hKE hO1 hr hex) (fun t ht => ?_)
  obtain ⟨p, rfl, hfp, hfirst⟩ := ht
  obtain ⟨p1, p2, p3, p4⟩ := (fq j p).mp hfp
  have hgo := (goB_iff (MO := MO) hLI (show lsO g j < m ∨ rS g j = 0 by
    cases j with
    | zero => exact Or.inr rfl
    | succ j => exact Or.inl (hr j (by omega))) p1).mp p2
  have hv' : VR m gd LI MO (j + 1) (up g j p) := VR_snoc hv p1 hgo.2.1 hgo.1 (fun i hi => by
    subst hi
    have hs1 : rS g (i + 1) ≠ 0 := fun e => by
      have := (rS_tb g (g i) (i + 1)).mpr ⟨i, by omega, rfl⟩
      rw [e, Nat.zero_testBit] at this; cases this
    exact hgo.2.2 hs1)
  have hlen' := VR_len hv'
  have ug : ∀ i, i < j → up g j p i = g i := fun i hi => up_n (by omega)
  have urs : ∀ i, i ≤ j → rS (up g j p) i = rS g i := fun i hi => rS_cg i (fun z hz => ug z (by omega))
  have uls : ∀ i, i ≤ j → lsO (up g j p) i = lsO g i := fun i hi => by
    cases i with
    | zero => rfl
    | succ i => exact ug i (by omega)
  have ust : ∀ i, i < j → stI KE (up g j p) i = stI KE g i := fun i hi => by
    cases i with
    | zero => rfl
    | succ i => show kgp KE (up g j p i) (up g j p (i + 1)) = kgp KE (g i) (g (i + 1)); rw [ug i (by omega), ug (i + 1) hi]
  have ustj : stI KE (up g j p) j = if j = 0 then 0 else kgp KE (lsO g j) p := by
    cases j with
    | zero => rfl
    | succ j => show kgp KE (up g (j + 1) p j) (up g (j + 1) p (j + 1)) = _; rw [up_s, ug j (by omega), if_neg (by omega)]; rfl
  have usum : ∀ i, i ≤ j → sumN (stI KE (up g j p)) i = sumN (stI KE g) i := fun i hi => sum_cg i (fun z hz => ust z (by omega))
  have usumj : sumN (stI KE (up g j p)) (j + 1) = sumN (stI KE g) j + (if j = 0 then 0 else kgp KE (lsO g j) p) := by
    show sumN (stI KE (up g j p)) j + stI KE (up g j p) j = _
    rw [usum j (Nat.le_refl _), ustj]
  have hstn : 0 ≤ (if j = 0 then (0 : Int) else kgp KE (lsO g j) p) := by
    cases j with
    | zero => exact Int.le_refl 0
    | succ j => rw [if_neg (by omega)]; exact (kgp_b hKE (hr j (by omega)) p1).1
  have h2p : (2 ^ p : Nat) < 2 ^ m := two_lt p1
  have hol : rS g j ||| 2 ^ p < 2 ^ m := Nat.or_lt_two_pow hsl h2p
  rw [show mg M1 (cI 80) 20 = 96 from p_79_20 h1.1, show cI 96 = 95 from rfl, n_95 h1.1, show mg M1 (cI 80) 18 = (j : Int) from h18', Int.toNat_natCast]
  refine wI (by decide) (wI (by omega) (wL ?_))
  rw [show mg (mp M1 95 j (p : Int)) (cI 80) 18 = (j : Int) by rw [show cI 80 = 79 from rfl, mg_mp_n (by omega)]; exact h18', w32_s (by omega) (by omega), bShl_1 p (by omega), bOr_n (by omega) (by omega)]
  refine wL (wL (wSl ⟨by omega, up g j p, hv', ?_, ?_, ?_, ?_, ?_, fun i hi q hq => ?_, fun i hi => ?_, Fr_wr (Fr_wr hf (Or.inr rfl)) (Or.inl ⟨rfl, rfl⟩), ?_, fun i hi => ?_⟩))
  · show ((rS g j ||| 2 ^ p : Nat) : Int) = (rS (up g j p) (j + 1) : Int)
    rw [rS_snoc]
  · show (p : Int) = ((up g j p j : Nat) : Int)
    rw [up_s]
  · rw [rS_snoc]; exact p3
  · rw [rS_snoc, usumj, show lsO (up g j p) (j + 1) = p from up_s _ _ _]; omega
  · rw [usumj]; omega
  · have hq' : FitQ m MI LI KE gd MO L M (up g j p) i q ↔ FitQ m MI LI KE gd MO L M g i q := by unfold FitQ; rw [urs i (by omega), uls i (by omega)]
    rw [hq']
    by_cases e : i = j
    · subst e
      rw [up_s] at hq
      exact fun hz => hfirst q hq ((fq i q).mpr hz)
    · rw [ug i (by omega)] at hq
      exact hfit i (by omega) q hq
  · rw [urs i (by omega), uls i (by omega), usum i (by omega)]
    by_cases e : i = j
    · subst e; exact hsum
    · exact hpre i (by omega)
  · show mg (mp (mp M1 95 j (p : Int)) 79 18 ((j : Int) + 1)) 79 18 = ((j + 1 : Nat) : Int)
    rw [mg_mp_s]; rfl
  · show mg (mp (mp M1 95 j (p : Int)) 79 18 ((j : Int) + 1)) 95 i = _
    rw [mg_mp_n (by omega), mg_mp]
    by_cases e : i = j
    · subst e; rw [if_pos ⟨rfl, rfl⟩, up_s]
    · rw [if_neg (by omega), ug i (by omega)]; exact h95 i (by omega)
/-- the plan is the first of the best -/
theorem plan_best (hm : m ≤ 10) (hMI : ∀ k, k < m → 1 ≤ MI k ∧ MI k ≤ 60) (hLI : ∀ k, k < m → 0 ≤ LI k ∧ LI k ≤ 9) (hKE : ∀ k, k < m → 0 ≤ KE k ∧ KE k ≤ 11) (hO : LfO m MI LI KE gd MO L 0 M) {len : Nat} {g : Nat → Nat} (hv : VR m gd LI MO len g) (hT : mS MI m (rS g len) = L) (hS : rd96 M 0 0 = sumN (stI KE g) len) (hfit : ∀ i, i < len → ∀ q, q < g i → ¬ FitQ m MI LI KE gd MO L M g i q) (hpre : ∀ i, i < len → rd96 M (rS g i) (lsO g i) + sumN (stI KE g) i = rd96 M 0 0) (hLW : L ≤ WH) (hmax : ∀ (r : Nat → Nat) (lr : Nat), VR m gd LI MO lr r → mS MI m (rS r lr) ≤ WH → mS MI m (rS r lr) ≤ L) : PlB m MI LI KE gd MO WH L len g := by
  have hpm := pow_m hm
  refine ⟨hv, by rw [← vr_ms hv]; exact hT, hLW, fun r lr hr hw => ?_, fun r lr hr he => ?_⟩
  · rw [← vr_ms hr] at hw ⊢; exact hmax r lr hr hw
  · rw [← vr_ms hr] at he
    have h1 := (lf_le hm hMI hLI hKE hO hr he lr 0 (by omega)).1
    have h1 : rd96 M 0 0 ≤ sfx (stI KE r) 0 lr := h1
    have h2 := sum_sfx (stI KE r) lr 0
    rw [Nat.zero_add] at h2
    have z : sumN (stI KE r) 0 = 0 := rfl
    refine ⟨by omega, fun heq i hi1 hi2 hag => ?_⟩
    obtain ⟨q, hq⟩ : ∃ q, i + (q + 1) = lr := ⟨lr - (i + 1), by omega⟩
    have hrm : ∀ j, j < i → r j < m := fun j hj => (hr.1 j (by omega)).1
    have ers : rS r i = rS g i := rS_cg i hag
    have els : lsO r i = lsO g i := by
      cases i with
      | zero => rfl
      | succ i => exact hag i (by omega)
    have est : sumN (stI KE r) i = sumN (stI KE g) i := sum_cg i (fun z hz => by
      cases z with
      | zero => rfl
      | succ z => show kgp KE (r z) (r (z + 1)) = kgp KE (g z) (g (z + 1)); rw [hag z (by omega), hag (z + 1) hz])
    have s1 := sum_sfx (stI KE r) (q + 1) i
    rw [hq] at s1
    have s2 : sfx (stI KE r) i (q + 1) = stI KE r i + sfx (stI KE r) (i + 1) q := rfl
    have h3 := (lf_le hm hMI hLI hKE hO hr he q (i + 1) (by omega)).1
    have h3 : rd96 M (rS r i ||| 2 ^ r i) (r i) ≤ sfx (stI KE r) (i + 1) q := h3
    have hp := hpre i hi2
    have h0 := hr.1 i hi1
    have hw : mS MI m (rS r i ||| 2 ^ r i) ≤ L := by rw [← he]; exact vr_sum hMI hr q (i + 1) (by omega)
    have hg := vr_goes hLI hr hi1
    have esti : stI KE r i = (if i = 0 then 0 else kgp KE (lsO r i) (r i)) := by
      cases i with
      | zero => rfl
      | succ i => rfl
    have h4 : rd96 M (rS r i) (lsO r i) ≤ rd96 M (rS r i ||| 2 ^ r i) (r i) + (if i = 0 then 0 else kgp KE (lsO r i) (r i)) := by
      rw [hO (rS r i) (lsO r i) (Nat.zero_le _) (rS_lt i hrm) (ls_lt hm hrm)]
      split
      · rw [← esti]
        have hb := lf_b hm hKE hO (2 ^ m - (rS r i ||| 2 ^ r i)) (rS r i ||| 2 ^ r i) (r i) (by have := Nat.or_lt_two_pow (rS_lt i hrm) (two_lt h0.1); omega) (by have := Nat.or_lt_two_pow (rS_lt i hrm) (two_lt h0.1); omega) (Or.inl h0.1)
        have : 0 ≤ stI KE r i := by
          cases i with
          | zero => exact Int.le_refl 0
          | succ i => exact (kgp_b hKE (hr.1 i (by omega)).1 h0.1).1
        omega
      · have h5 := (lmE_b m (lf_nn hm hKE hO hrm)).2.2 (r i) h0.1
        rw [lf_val hm hKE hO hrm h0.1 hg hw] at h5
        exact h5
    rcases Nat.lt_or_ge (r i) (g i) with h9 | h9
    · exact absurd ⟨h0.1, by rw [← ers, ← els]; exact hg, by rw [← ers]; exact hw, by rw [← ers, ← els]; rw [ers, els] at h4 ⊢; rw [ers] at h3; rw [els] at esti; omega⟩ (hfit i hi2 (r i) h9)
    · exact h9
end PRD
