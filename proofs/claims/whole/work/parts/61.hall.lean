/-! PLAYABLE: covered, or a set that shows why not -/
def MatchB (co : Nat → Nat → Int) (he : Nat → Bool) (d : PcD) : Prop := ∃ g : Nat → Nat, (∀ i, i < pPt d → (pMu d).testBit i = true → abl co he d i (g i) = true) ∧ ∀ i j, i < pPt d → j < pPt d → (pMu d).testBit i = true → (pMu d).testBit j = true → g i = g j → i = j
section HA
variable {n m k : Nat} {ag jo pa : Nat → Int} {co : Nat → Nat → Int} {he : Nat → Bool} {d : PcD} {M : Mm}
theorem abl_lt (hn : n ≤ 14) (hh : ∀ p, n ≤ p → he p = false) {i p : Nat} (h : abl co he d i p = true) : p < n := by
  rcases Nat.lt_or_ge p n with h1 | h1
  · exact h1
  · rw [abl_hi hh h1] at h; cases h
theorem tb_pt {X : Nat} (hX : X < 2 ^ pPt d) {i : Nat} (h : X.testBit i = true) : i < pPt d := by
  rcases Nat.lt_or_ge i (pPt d) with h1 | h1
  · exact h1
  · rw [Nat.testBit_lt_two_pow (Nat.lt_of_lt_of_le hX (Nat.pow_le_pow_right (by decide) h1))] at h; cases h
theorem match_no (hn : n ≤ 14) (hh : ∀ p, n ≤ p → he p = false) (hm : MatchB co he d) {X : Nat} (hX : X < 2 ^ pPt d) : lackB co he d X = false := by
  obtain ⟨g, g1, g2⟩ := hm
  unfold lackB
  by_cases c : X ^^^ (X &&& pMu d) = 0
  · have := pigeon (b := 14) 14 X.testBit (nbS co he d X) g (fun i _ hx => by
      have hi := tb_pt hX hx
      have ha := g1 i hi (sub_tb c i hx)
      exact ⟨Nat.lt_of_lt_of_le (abl_lt hn hh ha) hn, (exB_iff _).mpr ⟨i, hi, by rw [hx, ha]; rfl⟩⟩) (fun i j _ _ hx hy e => g2 i j (tb_pt hX hx) (tb_pt hX hy) (sub_tb c i hx) (sub_tb c j hy) e)
    rw [decide_eq_false (show ¬ nbr co he d X < pcn X by unfold nbr pcn; omega)]; simp
  · rw [decide_eq_false c]; rfl
def WCo (c x : Nat) : Prop := (c = 61 ∧ x = 3) ∨ c = 62 ∨ c = 63
theorem sh_WCo {M M' : Mm} (hs : Sh M) (hf : Fr WCo M M') : Sh M' := Sh_fr hs hf (fun c k e => by unfold WCo at e; unfold isP; omega)
/-- the parts ahead of j are covered -/
def CvI (d : PcD) (AB : Nat → Nat) (j : Nat) (m : Nat → Int) : Prop := FPv (pPt d) AB m ∧ (∀ p q, p < 14 → q < 14 → m p = m q → m p ≠ -1 → p = q) ∧ ∀ i : Nat, (∃ p, p < 14 ∧ m p = (i : Int)) ↔ (i < j ∧ i < pPt d ∧ (pMu d).testBit i = true)
theorem aB_tb (hh : ∀ p, n ≤ p → he p = false) {i : Nat} (hi : (pMu d).testBit i = true) (p : Nat) : (aB n co he d i).testBit p = abl co he d i p := by
  unfold aB; rw [if_pos hi, msk_abl hh]
/-- a set that shows why not -/
theorem cv_lack (hn : n ≤ 14) (hh : ∀ p, n ≤ p → he p = false) (hpt : pPt d ≤ 10) {m : Nat → Int} {part a' : Nat} (hp : part < pPt d) (hmu : (pMu d).testBit part = true) (hc : CvI d (aB n co he d) part m) (hf : FPf (aB n co he d) 0 m part 14 a') : ∃ X, 1 ≤ X ∧ X < 2 ^ pPt d ∧ lackB co he d X = true := by
  obtain ⟨c1, c2, c3⟩ := hc
  obtain ⟨f1, f2, f3, f4, f5⟩ := hf
  have fX : ∀ i, (msk (fun i => decide (i = part) || exB (fun p => a'.testBit p && decide (m p = (i : Int))) 14) (pPt d)).testBit i = (decide (i < pPt d) && (decide (i = part) || exB (fun p => a'.testBit p && decide (m p = (i : Int))) 14)) := fun i => msk_tb _ _ _
  have hXl := msk_lt (fun i => decide (i = part) || exB (fun p => a'.testBit p && decide (m p = (i : Int))) 14) (pPt d)
  generalize hXe : msk (fun i => decide (i = part) || exB (fun p => a'.testBit p && decide (m p = (i : Int))) 14) (pPt d) = X at *
  have hXp : X.testBit part = true := by rw [fX]; simp [hp]
  have hmem : ∀ i, X.testBit i = true → i < pPt d ∧ (i = part ∨ ∃ p, p < 14 ∧ a'.testBit p = true ∧ m p = (i : Int)) := fun i hi => by
    rw [fX, Bool.and_eq_true, Bool.or_eq_true, decide_eq_true_iff, decide_eq_true_iff, exB_iff] at hi
    refine ⟨hi.1, hi.2.imp id ?_⟩
    rintro ⟨p, hp, hq⟩
    rw [Bool.and_eq_true, decide_eq_true_iff] at hq
    exact ⟨p, hp, hq.1, hq.2⟩
  have hin : ∀ p i, p < 14 → a'.testBit p = true → m p = ((i : Nat) : Int) → X.testBit i = true := fun p i hp ha e => by
    have := (c3 i).mp ⟨p, hp, e⟩
    rw [fX, Bool.and_eq_true, Bool.or_eq_true, decide_eq_true_iff, exB_iff]
    exact ⟨this.2.1, Or.inr ⟨p, hp, by rw [ha, Bool.true_and, decide_eq_true_iff]; exact e⟩⟩
  have hmust : ∀ i, X.testBit i = true → (pMu d).testBit i = true := fun i hi => by
    rcases (hmem i hi).2 with rfl | ⟨p, hp, _, e⟩
    · exact hmu
    · exact ((c3 i).mp ⟨p, hp, e⟩).2.2
  have hX1 : 1 ≤ X := by
    rcases Nat.eq_zero_or_pos X with h | h
    · rw [h, Nat.zero_testBit] at hXp; cases hXp
    · exact h
  refine ⟨X, hX1, hXl, ?_⟩
  have hnb : nbr co he d X ≤ cnt a'.testBit 14 := cnt_mn 14 (fun p hp0 hx => by
    obtain ⟨i, hi, h2⟩ := (exB_iff _).mp hx
    rw [Bool.and_eq_true] at h2
    have hab : (aB n co he d i).testBit p = true := by rw [aB_tb hh (hmust i h2.1)]; exact h2.2
    rcases (hmem i h2.1).2 with rfl | ⟨q, hq, ha, e⟩
    · exact f4 p hp0 hab
    · exact f5 q hq ha (Nat.zero_testBit q) i e p hp0 hab)
  have hpg := pigeon (b := 14) 15 (fun p => decide (p = 14) || (decide (p < 14) && a'.testBit p)) X.testBit (fun p => if p = 14 then part else (m p).toNat) (fun p hp hs => by
    by_cases e : p = 14
    · simp only [if_pos e]
      exact ⟨by omega, hXp⟩
    · simp only [if_neg e]
      have ha : a'.testBit p = true := by simpa [e, show p < 14 by omega] using hs
      obtain ⟨i, e1, hi, _⟩ := (c1 p (by omega)).resolve_left (f3 p (by omega) ha)
      rw [e1, Int.toNat_natCast]
      exact ⟨by omega, hin p i (by omega) ha e1⟩) (fun p q hp hq hs ht e => by
    have np : ∀ p, p < 14 → a'.testBit p = true → (m p).toNat ≠ part := fun p hp0 ha e2 => by
      obtain ⟨i, e1, hi, _⟩ := (c1 p hp0).resolve_left (f3 p hp0 ha)
      rw [e1, Int.toNat_natCast] at e2
      have := ((c3 i).mp ⟨p, hp0, e1⟩).1
      omega
    by_cases e1 : p = 14
    · by_cases e2 : q = 14
      · omega
      · have ha : a'.testBit q = true := by simpa [e2, show q < 14 by omega] using ht
        simp only [if_pos e1, if_neg e2] at e
        exact absurd e.symm (np q (by omega) ha)
    · have ha : a'.testBit p = true := by simpa [e1, show p < 14 by omega] using hs
      by_cases e2 : q = 14
      · simp only [if_neg e1, if_pos e2] at e
        exact absurd e (np p (by omega) ha)
      · have hb : a'.testBit q = true := by simpa [e2, show q < 14 by omega] using ht
        simp only [if_neg e1, if_neg e2] at e
        obtain ⟨i, ei, _, _⟩ := (c1 p (by omega)).resolve_left (f3 p (by omega) ha)
        obtain ⟨i2, ei2, _, _⟩ := (c1 q (by omega)).resolve_left (f3 q (by omega) hb)
        refine c2 p q (by omega) (by omega) ?_ (f3 p (by omega) ha)
        rw [ei, ei2] at e ⊢
        rw [show i = i2 by simpa using e])
  have h15 : cnt (fun p => decide (p = 14) || (decide (p < 14) && a'.testBit p)) 15 = cnt a'.testBit 14 + 1 := by
    show cnt _ 14 + _ = _
    rw [cnt_cg (g := a'.testBit) 14 (fun p hp => by simp [hp, show p ≠ 14 by omega])]
    simp
  unfold lackB
  rw [decide_eq_true (tb_sub hmust), decide_eq_true (show nbr co he d X < pcn X by unfold pcn; omega)]
  rfl
theorem b_coversMust (hs : Sh M) (hp : CBp n ag jo pa co he M) (hok : OKp n pa co he) (hk : k < 10) (hb : PB k d M) (ho : OKd d) : wp (f_Cover_coversMust M 62 (pr k) 2) (fun q => q.1 = (if lk co he d = 0 then 1 else 0) ∧ (lk co he d = 0 → MatchB co he d) ∧ Fr WCo M q.2) := by
  obtain ⟨hn, _, hco, hh⟩ := hok
  have hpt := ho.2.2.2.2.1
  have hp1 := pow_1 (pPt d)
  unfold f_Cover_coversMust
  refine wK (b_findAble hs hp hn hk hb ho) (fun M1 ⟨f1, hab⟩ => ?_)
  have s1 : Sh M1 := sh_WAb hs f1
  have b1 : PB k d M1 := PB_fr hb f1 (fun c x e => by unfold WAb at e; omega)
  rw [show mg M1 (cI 62) 1 = 64 from p_61_1 s1]
  refine wI (by decide) (wK (w_fillI M1 64 (-1) (by rw [show cI 64 = 63 from rfl, n_63 s1]; decide)) (fun M2 ⟨f2, k2⟩ => ?_))
  rw [show cI 64 = 63 from rfl] at f2 k2
  rw [n_63 s1] at k2
  have f2' : Fr WCo M M2 := Fr_tr (Fr_sub f1 (fun c x e => Or.inr (Or.inl e))) (Fr_sub f2 (fun c x e => Or.inr (Or.inr e)))
  have hab2 : ∀ i, i < pPt d → mg M2 62 i = (aB n co he d i : Int) := fun i hi => (f2.1 62 i (by omega)).trans (hab i hi)
  -- the loop over the parts
  have hQ : wp (loopN (l_Cover_coversMust_16 62 (pr k)) FU (0, M2)) (fun t => Fr WCo M (Sum.elim (fun q => q.2) (fun u => u) t) ∧ ((∃ u, t = .inr u) ∧ MatchB co he d ∨ (∃ u, t = .inl (0, u)) ∧ ∃ X, 1 ≤ X ∧ X < 2 ^ pPt d ∧ lackB co he d X = true)) := by
    refine wp_loop (fun j s => s.1 = (j : Int) ∧ Fr WCo M s.2 ∧ (∀ i, i < pPt d → mg s.2 62 i = (aB n co he d i : Int)) ∧ ∃ m : Nat → Int, (∀ p, p < 14 → mg s.2 63 p = m p) ∧ CvI d (aB n co he d) j m) (pPt d) (by omega) ⟨rfl, f2', hab2, fun _ => -1, k2, fun p _ => Or.inl rfl, fun p q _ _ _ e => absurd rfl e, fun i => ⟨fun ⟨p, _, e⟩ => by (have e : (-1 : Int) = (i : Int) := e); omega, fun e => by omega⟩⟩ ?_
    intro j s hj hI
    obtain ⟨i, M3⟩ := s
    obtain ⟨hi, hf, hab3, m, hm, hcv⟩ := hI
    simp only at hi hf hab3 hm
    subst hi
    have s3 : Sh M3 := sh_WCo hs hf
    have b3 : PB k d M3 := PB_fr hb hf (fun c x e => by unfold WCo at e; omega)
    unfold l_Cover_coversMust_16
    simp only []
    rw [show mg M3 (cI (pr k)) 7 = (pPt d : Int) by rw [cI_pr]; exact b3.2.2.2.2.1]
    refine wC (fun hc => wSr ⟨hf, Or.inl ⟨⟨M3, rfl⟩, ?_⟩⟩) (fun hc => ?_)
    · have : j = pPt d := by omega
      subst this
      obtain ⟨v1, v2, v3⟩ := hcv
      have hex : ∀ i, i < pPt d → (pMu d).testBit i = true → ∃ p, p < 14 ∧ m p = (i : Int) := fun i hi hmu => (v3 i).mpr ⟨hi, hi, hmu⟩
      have hall : ∀ i, ∃ p, i < pPt d → (pMu d).testBit i = true → p < 14 ∧ m p = (i : Int) := fun i => by
        by_cases h : i < pPt d ∧ (pMu d).testBit i = true
        · obtain ⟨p, hp⟩ := hex i h.1 h.2
          exact ⟨p, fun _ _ => hp⟩
        · exact ⟨0, fun h1 h2 => absurd ⟨h1, h2⟩ h⟩
      refine ⟨fun i => Classical.choose (hall i), fun i hi hmu => ?_, fun i i2 hi hi2 hmu hmu2 e => ?_⟩
      · obtain ⟨g1, g2⟩ := Classical.choose_spec (hall i) hi hmu
        rcases v1 _ g1 with e | ⟨i', e1, _, e3⟩
        · rw [g2] at e; omega
        · rw [g2] at e1
          have : i = i' := by omega
          subst this
          rw [← aB_tb (n := n) hh hmu]; exact e3
      · have g2 := (Classical.choose_spec (hall i) hi hmu).2
        have g3 := (Classical.choose_spec (hall i2) hi2 hmu2).2
        have e : Classical.choose (hall i) = Classical.choose (hall i2) := e
        rw [e, g3] at g2
        omega
    have hj' : j < pPt d := by omega
    have ej : w32 ((j : Int) + 1) = ((j + 1 : Nat) : Int) := by rw [w32_s (by omega) (by omega)]; omega
    refine wL ?_
    rw [show cI 62 = 61 from rfl]
    have hf4 : Fr WCo M (mp M3 61 3 0) := Fr_wr hf (Or.inl ⟨rfl, rfl⟩)
    have hmm4 : FPm (pPt d) (aB n co he d) 0 m (mp M3 61 3 0) := ⟨fun i hi => by rw [mg_mp_n (by omega)]; exact hab3 i hi, mg_mp_s _ _ _ _, fun p hp => by rw [mg_mp_n (by omega)]; exact hm p hp⟩
    generalize hM4 : mp M3 61 3 0 = M4 at *
    have s4 : Sh M4 := sh_WCo hs hf4
    have b4 : PB k d M4 := PB_fr hb hf4 (fun c x e => by unfold WCo at e; omega)
    refine wX (q_isMust b4 ho (show j < 32 by omega)) ?_
    cases hmu : (pMu d).testBit j with
    | false =>
      refine wI (by decide) (wL (wSl ⟨hj', ej, hf4, hmm4.1, m, hmm4.2.2, hcv.1, hcv.2.1, fun i => ?_⟩))
      rw [hcv.2.2 i]
      constructor
      · rintro ⟨a1, a2, a3⟩; exact ⟨by omega, a2, a3⟩
      · rintro ⟨a1, a2, a3⟩
        refine ⟨?_, a2, a3⟩
        by_cases e : i = j
        · subst e; rw [hmu] at a3; cases a3
        · omega
    | true =>
      have hnm : ∀ p, p < 14 → m p ≠ (j : Int) := fun p hp e => by
        have := ((hcv.2.2 j).mp ⟨p, hp, e⟩).1
        omega
      have hpre : FPre (pPt d) (aB n co he d) j 0 m j 0 := ⟨by omega, hcv.1, hcv.2.1, hnm, (fun p _ e => by rw [Nat.zero_testBit] at e; cases e), hj', hj', fun p hp _ => hnm p hp, Nat.zero_le _⟩
      refine wE (by decide) (wK (b_findPlayer hpt (fun i => aB_lt hn i) 12 0 M4 0 m j s4 hmm4 hpre (by omega)) (fun r hr => ?_))
      obtain ⟨hfr, hr⟩ := hr
      have hf5 : Fr WCo M r.2 := Fr_tr hf4 (Fr_sub hfr (fun c x e => by unfold WFp at e; unfold WCo; omega))
      rcases hr with ⟨e1, a2, m2, hm2, t1, t2, t3, t4⟩ | ⟨e0, a2, hm2, hff⟩
      · rw [e1]
        refine wI (by decide) (wL (wSl ⟨hj', ej, hf5, hm2.1, m2, hm2.2.2, t1, fun p q hp hq e he => t3 p q hp hq (Nat.zero_testBit p) (Nat.zero_testBit q) e he, fun i => ?_⟩))
        have t4' := t4 i
        constructor
        · rintro ⟨p, hp, e⟩
          rcases t4'.mp ⟨p, hp, Nat.zero_testBit p, e⟩ with rfl | ⟨p2, hp2, _, e2⟩
          · exact ⟨by omega, hj', hmu⟩
          · have := (hcv.2.2 i).mp ⟨p2, hp2, e2⟩
            exact ⟨by omega, this.2⟩
        · rintro ⟨a1, a2, a3⟩
          have : ∃ p, p < 14 ∧ (0 : Nat).testBit p = false ∧ m2 p = (i : Int) := t4'.mpr (by
            by_cases e : i = j
            · exact Or.inl e
            · obtain ⟨p, hp, e2⟩ := (hcv.2.2 i).mpr ⟨by omega, a2, a3⟩
              exact Or.inr ⟨p, hp, Nat.zero_testBit p, e2⟩)
          obtain ⟨p, hp, _, e⟩ := this
          exact ⟨p, hp, e⟩
      · rw [e0]
        exact wE (by decide) (wSr ⟨hf5, Or.inr ⟨⟨_, rfl⟩, cv_lack hn hh hpt hj' hmu hcv hff⟩⟩)
  refine wK hQ (fun t ht => ?_)
  obtain ⟨hf, ht⟩ := ht
  rcases ht with ⟨⟨u, rfl⟩, hmt⟩ | ⟨⟨u, rfl⟩, X, x1, x2, x3⟩
  · have h0 : lk co he d = 0 := (lkF_0 co he d _).mpr (fun X x1 x2 => match_no hn hh hmt (by omega))
    refine wS ⟨?_, fun _ => hmt, hf⟩
    rw [if_pos h0]
  · have h0 : lk co he d ≠ 0 := fun e => by
      have := (lkF_0 co he d _).mp e X x1 (by omega)
      rw [this] at x3; cases x3
    refine wS ⟨?_, fun e => absurd e h0, hf⟩
    rw [if_neg h0]
end HA
