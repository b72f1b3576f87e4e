/-! a player for a part: paths -/
def FPm (pt : Nat) (AB : Nat → Nat) (a : Nat) (m : Nat → Int) (M : Mm) : Prop := (∀ i, i < pt → mg M 62 i = (AB i : Int)) ∧ mg M 61 3 = (a : Int) ∧ ∀ p, p < 14 → mg M 63 p = m p
def FPv (pt : Nat) (AB : Nat → Nat) (m : Nat → Int) : Prop := ∀ p, p < 14 → m p = -1 ∨ ∃ i : Nat, m p = (i : Int) ∧ i < pt ∧ (AB i).testBit p = true
def FPre (pt : Nat) (AB : Nat → Nat) (rt a : Nat) (m : Nat → Int) (part dep : Nat) : Prop := a < 16384 ∧ FPv pt AB m ∧ (∀ p q, p < 14 → q < 14 → m p = m q → m p ≠ -1 → p = q) ∧ (∀ p, p < 14 → m p ≠ (rt : Int)) ∧ (∀ p, p < 14 → a.testBit p = true → m p ≠ -1) ∧ part < pt ∧ rt < pt ∧ (∀ p, p < 14 → a.testBit p = false → m p ≠ (part : Int)) ∧ dep ≤ cnt a.testBit 14
def FPt (pt : Nat) (AB : Nat → Nat) (a : Nat) (m : Nat → Int) (part : Nat) (m' : Nat → Int) : Prop := FPv pt AB m' ∧ (∀ p, p < 14 → a.testBit p = true → m' p = m p) ∧ (∀ p q, p < 14 → q < 14 → a.testBit p = false → a.testBit q = false → m' p = m' q → m' p ≠ -1 → p = q) ∧ (∀ i : Nat, (∃ p, p < 14 ∧ a.testBit p = false ∧ m' p = (i : Int)) ↔ (i = part ∨ ∃ p, p < 14 ∧ a.testBit p = false ∧ m p = (i : Int)))
def FPf (AB : Nat → Nat) (a : Nat) (m : Nat → Int) (part j a' : Nat) : Prop := a' < 16384 ∧ (∀ p, p < 14 → a.testBit p = true → a'.testBit p = true) ∧ (∀ p, p < 14 → a'.testBit p = true → m p ≠ -1) ∧ (∀ p, p < j → (AB part).testBit p = true → a'.testBit p = true) ∧ (∀ p, p < 14 → a'.testBit p = true → a.testBit p = false → ∀ i : Nat, m p = (i : Int) → ∀ q, q < 14 → (AB i).testBit q = true → a'.testBit q = true)
def WFp (c x : Nat) : Prop := (c = 61 ∧ x = 3) ∨ c = 63
def FPost (M : Mm) (pt : Nat) (AB : Nat → Nat) (a : Nat) (m : Nat → Int) (part : Nat) (q : Int × Mm) : Prop := Fr WFp M q.2 ∧ ((q.1 = 1 ∧ ∃ a' m', FPm pt AB a' m' q.2 ∧ FPt pt AB a m part m') ∨ (q.1 = 0 ∧ ∃ a', FPm pt AB a' m q.2 ∧ FPf AB a m part 14 a'))
theorem sh_WFp {M M' : Mm} (hs : Sh M) (hf : Fr WFp M M') : Sh M' := Sh_fr hs hf (fun c k e => by unfold WFp at e; unfold isP; omega)
theorem bit_0 {x j : Nat} (hx : x < 16384) (hj : j < 14) : bAnd (x : Int) ((2 ^ j : Nat) : Int) = 0 ↔ x.testBit j = false := by
  have h2 : (2 ^ j : Nat) < 16384 := Nat.lt_of_lt_of_le (two_lt hj) (by decide)
  rw [bAnd_n (by omega) (by omega)]
  constructor
  · intro h
    have h3 : (x &&& 2 ^ j).testBit j = false := by rw [show x &&& 2 ^ j = 0 by omega]; exact Nat.zero_testBit j
    rw [Nat.testBit_and, Nat.testBit_two_pow] at h3
    simpa using h3
  · intro h
    have : x &&& 2 ^ j = 0 := Nat.eq_of_testBit_eq (fun i => by
      rw [Nat.testBit_and, Nat.testBit_two_pow, Nat.zero_testBit]
      by_cases e : j = i
      · subst e; rw [h]; rfl
      · simp [e])
    rw [this]; rfl
theorem FP_dep {pt : Nat} {AB : Nat → Nat} {rt a : Nat} {m : Nat → Int} {part dep : Nat} (h : FPre pt AB rt a m part dep) (hpt : pt ≤ 10) : dep ≤ 9 := by
  obtain ⟨h1, h2, h3, h4, h5, h6, h7, h8, h9⟩ := h
  have hg : ∀ p, p < 14 → a.testBit p = true → ∃ i : Nat, m p = (i : Int) ∧ i < pt ∧ (AB i).testBit p = true := fun p hp ha => (h2 p hp).resolve_left (h5 p hp ha)
  have k1 := pigeon (b := pt) 14 a.testBit (fun i => true && !decide (i = rt)) (fun p => (m p).toNat) (fun p hp ha => by
    obtain ⟨i, e, hi, _⟩ := hg p hp ha
    have := h4 p hp
    rw [e] at this ⊢
    rw [Int.toNat_natCast]
    exact ⟨hi, by simp; omega⟩) (fun p q hp hq ha hb e => by
    obtain ⟨i, e1, _, _⟩ := hg p hp ha
    obtain ⟨i2, e2, _, _⟩ := hg q hq hb
    rw [e1, e2] at e
    exact h3 p q hp hq (by rw [e1, e2, show i = i2 by simpa using e]) (h5 p hp ha))
  have k2 : cnt (fun i => true && !decide (i = rt)) pt + 1 = cnt (fun _ => true) pt := cnt_rm (g := fun _ => true) (x := rt) pt h7 rfl
  have k3 := cnt_le (fun _ => true) pt
  omega
section CV
variable {pt rt : Nat} {AB : Nat → Nat}
theorem FPm_ask {a : Nat} {m : Nat → Int} {M : Mm} (h : FPm pt AB a m M) (a' : Nat) : FPm pt AB a' m (mp M 61 3 (a' : Int)) := ⟨fun i hi => by rw [mg_mp_n (by omega)]; exact h.1 i hi, mg_mp_s _ _ _ _, fun p hp => by rw [mg_mp_n (by omega)]; exact h.2.2 p hp⟩
theorem FPm_put {a : Nat} {m : Nat → Int} {M : Mm} (h : FPm pt AB a m M) (j : Nat) (v : Int) : FPm pt AB a (up m j v) (mp M 63 j v) := ⟨fun i hi => by rw [mg_mp_n (by omega)]; exact h.1 i hi, by rw [mg_mp_n (by omega)]; exact h.2.1, fun p hp => by
  rw [mg_mp]; unfold up
  by_cases e : p = j
  · rw [if_pos ⟨rfl, e⟩, if_pos e]
  · rw [if_neg (by omega), if_neg e]; exact h.2.2 p hp⟩
/-- a free player -/
theorem FPt_free {a aj : Nat} {m : Nat → Int} {part dep j : Nat} (h : FPre pt AB rt a m part dep) (hj : j < 14) (hsub : ∀ p, p < 14 → a.testBit p = true → aj.testBit p = true) (hja : aj.testBit j = false) (hab : (AB part).testBit j = true) (hm : m j = -1) : FPt pt AB a m part (up m j (part : Int)) := by
  obtain ⟨h1, h2, h3, h4, h5, h6, h7, h8, h9⟩ := h
  have hjn : a.testBit j = false := by
    cases e : a.testBit j with
    | false => rfl
    | true => rw [hsub j hj e] at hja; cases hja
  refine ⟨fun p hp => ?_, fun p hp ha => ?_, fun p q hp hq ha hb e he => ?_, fun i => ⟨?_, ?_⟩⟩
  · unfold up; split
    · rename_i e; subst e; exact Or.inr ⟨part, rfl, h6, hab⟩
    · exact h2 p hp
  · rw [up_n (fun e => by subst e; rw [hjn] at ha; cases ha)]
  · unfold up at e he
    split at e
    · rename_i e1
      split at e
      · rename_i e2; omega
      · exact absurd e.symm (h8 q hq hb)
    · rename_i e1
      rw [if_neg e1] at he
      split at e
      · exact absurd e (h8 p hp ha)
      · exact h3 p q hp hq e he
  · rintro ⟨p, hp, ha, e⟩
    unfold up at e
    split at e
    · exact Or.inl (by omega)
    · exact Or.inr ⟨p, hp, ha, e⟩
  · rintro (rfl | ⟨p, hp, ha, e⟩)
    · exact ⟨j, hj, hjn, up_s _ _ _⟩
    · refine ⟨p, hp, ha, ?_⟩
      rw [up_n (fun e2 => by subst e2; rw [hm] at e; omega)]; exact e
/-- a player who gives a part up -/
theorem FPt_rec {a aj : Nat} {m m2 : Nat → Int} {part dep j q : Nat} (h : FPre pt AB rt a m part dep) (hj : j < 14) (hsub : ∀ p, p < 14 → a.testBit p = true → aj.testBit p = true) (hja : aj.testBit j = false) (hab : (AB part).testBit j = true) (hA : ∀ p, p < 14 → aj.testBit p = true → m p ≠ -1) (hm : m j = (q : Int)) (hr : FPt pt AB (aj ||| 2 ^ j) m q m2) : FPt pt AB a m part (up m2 j (part : Int)) := by
  obtain ⟨h1, h2, h3, h4, h5, h6, h7, h8, h9⟩ := h
  obtain ⟨r1, r2, r3, r4⟩ := hr
  have hjn : a.testBit j = false := by
    cases e : a.testBit j with
    | false => rfl
    | true => rw [hsub j hj e] at hja; cases hja
  have tin : ∀ p, p ≠ j → aj.testBit p = true → (aj ||| 2 ^ j).testBit p = true := fun p _ e => by rw [tb_or, e]; rfl
  have tout : ∀ p, p ≠ j → aj.testBit p = false → (aj ||| 2 ^ j).testBit p = false := fun p hne e => by rw [tb_or, e]; simp; omega
  have tj : (aj ||| 2 ^ j).testBit j = true := by rw [tb_or]; simp
  have tno : ∀ p, (aj ||| 2 ^ j).testBit p = false → p ≠ j ∧ aj.testBit p = false := fun p e => by
    rw [tb_or] at e; simp at e; exact ⟨fun z => e.2 z.symm, e.1⟩
  have ana : ∀ p, p < 14 → aj.testBit p = false → a.testBit p = false := fun p hp e => by
    cases e2 : a.testBit p with
    | false => rfl
    | true => rw [hsub p hp e2] at e; cases e
  -- what the others hold
  have hold : ∀ p, p < 14 → p ≠ j → a.testBit p = false → (aj.testBit p = true ∧ m2 p = m p) ∨ (aj.testBit p = false ∧ (aj ||| 2 ^ j).testBit p = false) := fun p hp hne ha => by
    cases e : aj.testBit p with
    | true => exact Or.inl ⟨rfl, r2 p hp (tin p hne e)⟩
    | false => exact Or.inr ⟨rfl, tout p hne e⟩
  have src : ∀ p i, p < 14 → (aj ||| 2 ^ j).testBit p = false → m2 p = ((i : Nat) : Int) → i = q ∨ ∃ p2, p2 < 14 ∧ (aj ||| 2 ^ j).testBit p2 = false ∧ m p2 = (i : Int) := fun p i hp ht e => (r4 i).mp ⟨p, hp, ht, e⟩
  have nopart : ∀ p, p < 14 → p ≠ j → a.testBit p = false → m2 p ≠ (part : Int) := fun p hp hne ha e => by
    rcases hold p hp hne ha with ⟨e1, e2⟩ | ⟨e1, e2⟩
    · exact h8 p hp ha (by rw [← e2]; exact e)
    · rcases src p part hp e2 e with rfl | ⟨p2, hp2, ht2, e3⟩
      · exact h8 j hj hjn hm
      · exact h8 p2 hp2 (ana p2 hp2 (tno p2 ht2).2) e3
  refine ⟨fun p hp => ?_, fun p hp ha => ?_, fun p p' hp hp' ha hb e he => ?_, fun i => ⟨?_, ?_⟩⟩
  · unfold up; split
    · rename_i e; subst e; exact Or.inr ⟨part, rfl, h6, hab⟩
    · exact r1 p hp
  · have hne : p ≠ j := fun e => by subst e; rw [hjn] at ha; cases ha
    rw [up_n hne, r2 p hp (tin p hne (hsub p hp ha))]
  · unfold up at e he
    split at e
    · rename_i e1
      split at e
      · rename_i e2; omega
      · rename_i e2; exact absurd e.symm (nopart p' hp' e2 hb)
    · rename_i e1
      rw [if_neg e1] at he
      split at e
      · exact absurd e (nopart p hp e1 ha)
      · rename_i e2
        rcases hold p hp e1 ha with ⟨u1, u2⟩ | ⟨u1, u2⟩
        · rcases hold p' hp' e2 hb with ⟨v1, v2⟩ | ⟨v1, v2⟩
          · exact h3 p p' hp hp' (by rw [← u2, ← v2]; exact e) (by rw [← u2]; exact he)
          · have hmp := (h2 p hp).resolve_left (hA p hp u1)
            obtain ⟨i, ei, _, _⟩ := hmp
            rcases src p' i hp' v2 (by rw [← e, u2, ei]) with rfl | ⟨p2, hp2, ht2, e3⟩
            · exact absurd (h3 p j hp hj (by rw [ei, hm]) (hA p hp u1)) e1
            · have := h3 p p2 hp hp2 (by rw [ei, e3]) (hA p hp u1)
              subst this
              rw [(tno p ht2).2] at u1; cases u1
        · rcases hold p' hp' e2 hb with ⟨v1, v2⟩ | ⟨v1, v2⟩
          · have hmp := (h2 p' hp').resolve_left (hA p' hp' v1)
            obtain ⟨i, ei, _, _⟩ := hmp
            rcases src p i hp u2 (by rw [e, v2, ei]) with rfl | ⟨p2, hp2, ht2, e3⟩
            · exact absurd (h3 p' j hp' hj (by rw [ei, hm]) (hA p' hp' v1)) e2
            · have := h3 p' p2 hp' hp2 (by rw [ei, e3]) (hA p' hp' v1)
              subst this
              rw [(tno p' ht2).2] at v1; cases v1
          · exact r3 p p' hp hp' u2 v2 e he
  · rintro ⟨p, hp, ha, e⟩
    unfold up at e
    split at e
    · exact Or.inl (by omega)
    · rename_i hne
      rcases hold p hp hne ha with ⟨u1, u2⟩ | ⟨u1, u2⟩
      · exact Or.inr ⟨p, hp, ha, by rw [← u2]; exact e⟩
      · rcases src p i hp u2 e with rfl | ⟨p2, hp2, ht2, e3⟩
        · exact Or.inr ⟨j, hj, hjn, hm⟩
        · exact Or.inr ⟨p2, hp2, ana p2 hp2 (tno p2 ht2).2, e3⟩
  · rintro (rfl | ⟨p, hp, ha, e⟩)
    · exact ⟨j, hj, hjn, up_s _ _ _⟩
    · have fin : (i = q ∨ ∃ p2, p2 < 14 ∧ (aj ||| 2 ^ j).testBit p2 = false ∧ m p2 = (i : Int)) → ∃ p, p < 14 ∧ a.testBit p = false ∧ up m2 j (part : Int) p = (i : Int) := fun hc => by
        obtain ⟨p3, hp3, ht3, e3⟩ := (r4 i).mpr hc
        obtain ⟨n1, n2⟩ := tno p3 ht3
        exact ⟨p3, hp3, ana p3 hp3 n2, by rw [up_n n1]; exact e3⟩
      by_cases hne : p = j
      · subst hne
        rw [hm] at e
        exact fin (Or.inl (by omega))
      · rcases hold p hp hne ha with ⟨u1, u2⟩ | ⟨u1, u2⟩
        · exact ⟨p, hp, ha, by rw [up_n hne, u2]; exact e⟩
        · exact fin (Or.inr ⟨p, hp, u2, e⟩)
theorem b_findPlayer (hpt : pt ≤ 10) (hAB : ∀ i, AB i < 16384) : ∀ (f dep : Nat) (M : Mm) (a : Nat) (m : Nat → Int) (part : Nat), Sh M → FPm pt AB a m M → FPre pt AB rt a m part dep → dep + f = 12 → wp (f_Cover_findPlayer f M 62 (part : Int) (dep : Int)) (FPost M pt AB a m part)
  | 0, dep, M, a, m, part, hs, hm, hpre, hf => by
    have := FP_dep hpre hpt
    omega
  | f + 1, dep, M, a, m, part, hs, hm, hpre, hf => by
    have hdep := FP_dep hpre hpt
    have hpre0 := hpre
    obtain ⟨h1, h2, h3, h4, h5, h6, h7, h8, h9⟩ := hpre0
    show wp (g_Cover_findPlayer (f_Cover_findPlayer f) M 62 (part : Int) (dep : Int)) _
    unfold g_Cover_findPlayer
    refine wI (by omega) ?_
    refine wK (wp_loop (fun j s => s.1 = (j : Int) ∧ Fr WFp M s.2 ∧ ∃ aj, FPm pt AB aj m s.2 ∧ FPf AB a m part j aj) 14 (Q := fun t => FPost M pt AB a m part (Sum.elim (fun q => q) (fun u => (0, u)) t)) (by decide) ⟨rfl, Fr_rf, a, hm, h1, fun p _ h => h, h5, fun p hp => absurd hp (Nat.not_lt_zero _), fun p _ h g => by rw [h] at g; cases g⟩ ?_) ?_
    · intro j s hj hI
      obtain ⟨i, M1⟩ := s
      obtain ⟨hi, hfr, aj, hmj, hfj⟩ := hI
      simp only at hi hfr hmj
      subst hi
      have hs1 : Sh M1 := sh_WFp hs hfr
      unfold l_Cover_findPlayer_10
      simp only []
      refine wC (fun hc => wSr ?_) (fun hc => ?_)
      · have : j = 14 := by omega
        subst this
        exact ⟨hfr, Or.inr ⟨rfl, aj, hmj, hfj⟩⟩
      have hj' : j < 14 := by omega
      obtain ⟨g1, g2, g3, g4, g5⟩ := hfj
      have ej : w32 ((j : Int) + 1) = ((j + 1 : Nat) : Int) := by rw [w32_s (by omega) (by omega)]; omega
      have h2j : (2 ^ j : Nat) < 16384 := Nat.lt_of_lt_of_le (two_lt hj') (by decide)
      rw [bShl_1 j (by omega)]
      refine wL ?_
      rw [show mg M1 (cI 62) 0 = 63 from p_61_0 hs1, show cI 63 = 62 from rfl, n_62 hs1]
      refine wI (by decide) (wI (by omega) ?_)
      rw [Int.toNat_natCast, hmj.1 part h6]
      refine wC (fun hc1 => ?_) (fun hc1 => ?_)
      · have hb := (bit_0 (hAB part) hj').mp hc1
        refine wL (wSl ⟨hj', ej, hfr, aj, hmj, g1, g2, g3, fun p hp hab => ?_, g5⟩)
        by_cases e : p = j
        · subst e; rw [hb] at hab; cases hab
        · exact g4 p (by omega) hab
      have hab : (AB part).testBit j = true := by
        cases e : (AB part).testBit j with
        | true => rfl
        | false => exact absurd ((bit_0 (hAB part) hj').mpr e) hc1
      rw [show mg M1 (cI 62) 3 = (aj : Int) from hmj.2.1]
      refine wC (fun hc2 => ?_) (fun hc2 => ?_)
      · have hja := (bit_0 g1 hj').mp hc2
        rw [bOr_n (by omega) (by omega)]
        refine wL ?_
        rw [show cI 62 = 61 from rfl]
        have hm9 : FPm pt AB (aj ||| 2 ^ j) m (mp M1 61 3 ((aj ||| 2 ^ j : Nat) : Int)) := FPm_ask hmj _
        have hf9 : Fr WFp M (mp M1 61 3 ((aj ||| 2 ^ j : Nat) : Int)) := Fr_wr hfr (Or.inl ⟨rfl, rfl⟩)
        generalize hM9 : mp M1 61 3 ((aj ||| 2 ^ j : Nat) : Int) = M9 at *
        have hs9 : Sh M9 := sh_WFp hs hf9
        rw [p_61_1 hs9, show cI 64 = 63 from rfl, n_63 hs9, Int.toNat_natCast, hm9.2.2 j hj']
        refine wI (by decide) (wI (by omega) ?_)
        have put : ∀ (M2 : Mm) (a2 : Nat) (m2 : Nat → Int), Fr WFp M M2 → FPm pt AB a2 m2 M2 → FPt pt AB a m part (up m2 j (part : Int)) → wp (j_Cover_findPlayer_83_10 (f_Cover_findPlayer f) M2 62 (part : Int) (j : Int)) (Sum.elim (fun s' => j < 14 ∧ s'.1 = ((j + 1 : Nat) : Int) ∧ Fr WFp M s'.2 ∧ ∃ aj, FPm pt AB aj m s'.2 ∧ FPf AB a m part (j + 1) aj) (fun t => FPost M pt AB a m part (Sum.elim (fun q => q) (fun u => (0, u)) t))) := by
          intro M2 a2 m2 hfr2 hm2 ht
          have hs2 : Sh M2 := sh_WFp hs hfr2
          unfold j_Cover_findPlayer_83_10
          rw [show mg M2 (cI 62) 1 = 64 from p_61_1 hs2, show cI 64 = 63 from rfl, n_63 hs2, Int.toNat_natCast]
          exact wI (by decide) (wI (by omega) (wL (wSr ⟨Fr_wr hfr2 (Or.inr rfl), Or.inl ⟨rfl, a2, up m2 j (part : Int), FPm_put hm2 j _, ht⟩⟩)))
        refine wC (fun hc3 => put M9 _ m hf9 hm9 (FPt_free hpre hj' g2 hja hab hc3)) (fun hc3 => ?_)
        obtain ⟨q, eq, hq, habq⟩ := (h2 j hj').resolve_left hc3
        rw [eq, w32_s (by omega) (by omega)]
        have hc9 : cnt (aj ||| 2 ^ j).testBit 14 = cnt aj.testBit 14 + 1 := by
          rw [← cnt_ad hj' hja]
          exact cnt_cg 14 (fun p _ => by rw [tb_or, show decide (j = p) = decide (p = j) from decide_eq_decide.mpr ⟨Eq.symm, Eq.symm⟩])
        have hmn : cnt a.testBit 14 ≤ cnt aj.testBit 14 := cnt_mn 14 g2
        have hpre9 : FPre pt AB rt (aj ||| 2 ^ j) m q (dep + 1) := by
          refine ⟨Nat.or_lt_two_pow (n := 14) (by omega) (by omega), h2, h3, h4, fun p hp ht => ?_, hq, h7, fun p hp ht e => ?_, by omega⟩
          · rw [tb_or, Bool.or_eq_true, decide_eq_true_iff] at ht
            rcases ht with ht | ht
            · exact g3 p hp ht
            · subst ht; rw [eq]; omega
          · have := h3 p j hp hj' (by rw [e, eq]) (by rw [e]; omega)
            subst this
            rw [tb_or] at ht; simp at ht
        have hrec := b_findPlayer hpt hAB f (dep + 1) M9 (aj ||| 2 ^ j) m q hs9 hm9 hpre9 (by omega)
        rw [show ((dep + 1 : Nat) : Int) = (dep : Int) + 1 by omega] at hrec
        refine wK hrec (fun r hr => ?_)
        obtain ⟨hfr10, hr⟩ := hr
        have hf10 : Fr WFp M r.2 := Fr_tr hf9 hfr10
        rcases hr with ⟨e1, a2, m2, hm2, ht2⟩ | ⟨e0, a2, hm2, k1, k2, k3, k4, k5⟩
        · rw [e1]
          exact wE (by decide) (put r.2 a2 m2 hf10 hm2 (FPt_rec hpre hj' g2 hja hab g3 eq ht2))
        · rw [e0]
          have sub2 : ∀ p, p < 14 → aj.testBit p = true → a2.testBit p = true := fun p hp h => k2 p hp (by rw [tb_or, h]; rfl)
          have inj : a2.testBit j = true := k2 j hj' (by rw [tb_or]; simp)
          refine wI rfl (wL (wSl ⟨hj', ej, hf10, a2, hm2, k1, fun p hp h => sub2 p hp (g2 p hp h), k3, fun p hp h => ?_, fun p hp h ha i e z hz hzb => ?_⟩))
          · by_cases e : p = j
            · rw [e]; exact inj
            · exact sub2 p (by omega) (g4 p (by omega) h)
          · by_cases e2 : p = j
            · subst e2
              have : i = q := by rw [e] at eq; omega
              subst this
              exact k4 z hz hzb
            · cases e3 : aj.testBit p with
              | true => exact sub2 z hz (g5 p hp e3 ha i e z hz hzb)
              | false => exact k5 p hp h (by rw [tb_or, e3]; simp; omega) i e z hz hzb
      · have hja : aj.testBit j = true := by
          cases e : aj.testBit j with
          | true => rfl
          | false => exact absurd ((bit_0 g1 hj').mpr e) hc2
        refine wL (wSl ⟨hj', ej, hfr, aj, hmj, g1, g2, g3, fun p hp h => ?_, g5⟩)
        by_cases e : p = j
        · rw [e]; exact hja
        · exact g4 p (by omega) h
    · intro t ht
      cases t with
      | inl q => exact wS ht
      | inr u => exact wS ht
end CV
