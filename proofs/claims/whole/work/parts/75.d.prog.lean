/-! the class's programme -/
/-- the choices: which pieces, all that are good, each once -/
def Chs (m : Nat) (gd : Nat → Bool) (q : Nat) (num : Nat → Nat) : Prop := (∀ c, c < q → num c < m ∧ gd (num c) = true) ∧ (∀ c c', c < q → c' < q → num c = num c' → c = c') ∧ ∀ k, k < m → gd k = true → ∃ c, c < q ∧ num c = k
theorem Chs_q {m : Nat} {gd : Nat → Bool} {q : Nat} {num : Nat → Nat} (h : Chs m gd q num) : q ≤ m := by
  have h1 := pigeon (b := m) q (fun _ => true) (fun _ => true) num (fun c hc _ => ⟨(h.1 c hc).1, rfl⟩) (fun c c' hc hc' _ _ e => h.2.1 c c' hc hc' e)
  have ct : ∀ n, cnt (fun _ => true) n = n := by
    intro n
    induction n with
    | zero => rfl
    | succ n ih => show cnt (fun _ => true) n + 1 = n + 1; omega
  rw [ct, ct] at h1; exact h1
/-- what the class's plan is, piece by piece -/
def PlC (m : Nat) (MI LI KE : Nat → Int) (gd : Nat → Bool) (MO WH lng : Int) (len : Nat) (a : Nat → Nat) : Prop := (∀ j, a j < 10) ∧ VR m gd LI MO len a ∧ sumN (fun i => MI (a i)) len = lng ∧ lng ≤ WH ∧ ∀ r lr, VR m gd LI MO lr r → sumN (fun i => MI (r i)) lr ≤ WH → sumN (fun i => MI (r i)) lr < lng ∨ (sumN (fun i => MI (r i)) lr = lng ∧ sumN (stI KE a) len * 10000000000 + dqS a len ≤ sumN (stI KE r) lr * 10000000000 + dqS r lr)
theorem bsr_plc {m q : Nat} {gd : Nat → Bool} {num : Nat → Nat} {MI LI KE mi li ke : Nat → Int} {MO WH lng : Int} (hm : m ≤ 10) (hc : Chs m gd q num) (e1 : ∀ c, c < q → mi c = MI (num c)) (e2 : ∀ c, c < q → li c = LI (num c)) (e3 : ∀ c, c < q → ke c = KE (num c)) {len : Nat} {rc : Nat → Nat} (h : BsR q num mi li ke MO WH lng len rc) : PlC m MI LI KE gd MO WH lng len (fun i => if i < len then num (rc i) else 0) ∧ vC num ke rc len = sumN (stI KE (fun i => if i < len then num (rc i) else 0)) len * 10000000000 + dqS (fun i => if i < len then num (rc i) else 0) len := by
  obtain ⟨v1, v2, v3, v4⟩ := h
  obtain ⟨c1, c2, c3⟩ := hc
  -- a row of choices as a row of pieces
  have tot : ∀ (r x : Nat → Nat) (l : Nat), VR q (fun _ => true) li MO l r → (∀ i, i < l → x i = num (r i)) → mS mi q (rS r l) = sumN (fun i => MI (x i)) l := fun r x l hr hx => by
    rw [mS_row l (fun i hi => (hr.1 i hi).1) hr.2.1]
    exact sum_cg l (fun i hi => by rw [hx i hi]; exact e1 _ (hr.1 i hi).1)
  have val : ∀ (r x : Nat → Nat) (l : Nat), VR q (fun _ => true) li MO l r → (∀ i, i < l → x i = num (r i)) → vC num ke r l = sumN (stI KE x) l * 10000000000 + dqS x l := fun r x l hr hx => by
    unfold vC dqS
    rw [sum_cg (f := stI ke r) (g := stI KE x) l (fun i hi => by
      cases i with
      | zero => rfl
      | succ i =>
        show kgp ke (r i) (r (i + 1)) = kgp KE (x i) (x (i + 1))
        unfold kgp
        rw [hx i (by omega), hx (i + 1) hi, e3 _ (hr.1 i (by omega)).1, e3 _ (hr.1 (i + 1) hi).1]), sum_cg (f := fun i => (num (r i) : Int) * dq i) (g := fun i => (x i : Int) * dq i) l (fun i hi => by rw [hx i hi])]
  have ax : ∀ i, i < len → (fun i => if i < len then num (rc i) else 0) i = num (rc i) := fun i hi => if_pos hi
  have va := val rc (fun i => if i < len then num (rc i) else 0) len v1 ax
  have ta := tot rc (fun i => if i < len then num (rc i) else 0) len v1 ax
  refine ⟨⟨fun j => ?_, ⟨fun i hi => ?_, fun i j hi hj e => ?_, fun i hi => ?_⟩, by rw [← ta]; exact v2, v3, fun r lr hr hw => ?_⟩, va⟩
  · show (if j < len then num (rc j) else 0) < 10
    split
    · rename_i hj
      have := (c1 _ (v1.1 j hj).1).1
      omega
    · omega
  · rw [ax i hi]; exact c1 _ (v1.1 i hi).1
  · rw [ax i hi, ax j hj] at e
    exact v1.2.1 i j hi hj (c2 _ _ (v1.1 i hi).1 (v1.1 j hj).1 e)
  · rw [ax i (by omega), ax (i + 1) hi, ← e2 _ (v1.1 i (by omega)).1, ← e2 _ (v1.1 (i + 1) hi).1]
    exact v1.2.2 i hi
  · have hall : ∀ i, ∃ c, i < lr → c < q ∧ num c = r i := fun i => by
      by_cases hi : i < lr
      · obtain ⟨c, hc⟩ := c3 (r i) (hr.1 i hi).1 (hr.1 i hi).2
        exact ⟨c, fun _ => hc⟩
      · exact ⟨0, fun e => absurd e hi⟩
    have sp : ∀ i, i < lr → Classical.choose (hall i) < q ∧ num (Classical.choose (hall i)) = r i := fun i hi => Classical.choose_spec (hall i) hi
    have hrc : VR q (fun _ => true) li MO lr (fun i => Classical.choose (hall i)) := ⟨fun i hi => ⟨(sp i hi).1, rfl⟩, fun i j hi hj e => by
      refine hr.2.1 i j hi hj ?_
      rw [← (sp i hi).2, ← (sp j hj).2]
      exact congrArg num e, fun i hi => by
      show li (Classical.choose (hall i)) + li (Classical.choose (hall (i + 1))) ≤ MO
      rw [e2 _ (sp i (by omega)).1, e2 _ (sp (i + 1) hi).1, (sp i (by omega)).2, (sp (i + 1) hi).2]
      exact hr.2.2 i hi⟩
    have hx : ∀ i, i < lr → r i = num ((fun i => Classical.choose (hall i)) i) := fun i hi => (sp i hi).2.symm
    have t1 := tot _ r lr hrc hx
    have t2 := val _ r lr hrc hx
    rcases v4 _ lr hrc (by rw [t1]; exact hw) with h6 | h6
    · exact Or.inl (by rw [← t1]; exact h6)
    · refine Or.inr ⟨by rw [← t1]; exact h6.1, ?_⟩
      rw [← va, ← t2]; exact h6.2
theorem Sh_mw {M : Mm} (h : Sh M) (n : Nat) : Sh (mw M n) := by
  obtain ⟨h1, h2, h3, h4⟩ := h
  have lt9 : ∀ q ∈ lnT, q.1 < 109 := by decide
  refine ⟨fun c k hp => ?_, fun q hq => ?_, fun k hk => ?_, by show 109 ≤ mN M + 1; omega⟩
  · have : c < 109 := by unfold isP at hp; omega
    rw [mg_mw, if_neg (by omega)]; exact h1 c k hp
  · have := lt9 q hq
    rw [ml_mw, if_neg (by omega)]; exact h2 q hq
  · rw [ml_mw, ml_mw, ml_mw, if_neg (by omega), if_neg (by omega), if_neg (by omega)]; exact h3 k hk
def WPg (c x : Nat) : Prop := (c = 61 ∧ x = 3) ∨ c = 62 ∨ c = 63 ∨ (c = 72 ∧ (x = 1 ∨ x = 2 ∨ x = 7 ∨ x = 8)) ∨ (73 ≤ c ∧ c ≤ 78) ∨ 109 ≤ c
/-- what the class's programme() may touch; it may make one row -/
def FrG (M M' : Mm) : Prop := (∀ c k, ¬ WPg c k → mg M' c k = mg M c k) ∧ Sh M' ∧ (mN M ≤ mN M' ∧ mN M' ≤ mN M + 1) ∧ mZ M' ≤ mZ M + 10240
/-- where the row of the best lies -/
def PBc (M : Mm) : Prop := ∃ bc : Nat, mg M 72 8 = (bc : Int) + 1 ∧ (bc = 78 ∨ 109 ≤ bc) ∧ bc < mN M
section PLD
variable {n m : Nat} {ag jo pa : Nat → Int} {co : Nat → Nat → Int} {he : Nat → Bool} {lb : Nat → PcD} {ch : Nat → Nat → Int} {M : Mm} {MO WH : Int}
def WOf (c x : Nat) : Prop := (c = 61 ∧ x = 3) ∨ c = 62 ∨ c = 63 ∨ (c = 72 ∧ x = 7) ∨ (74 ≤ c ∧ c ≤ 77)
theorem sh_WOf {M M' : Mm} (hs : Sh M) (hf : Fr WOf M M') : Sh M' := Sh_fr hs hf (fun c k e => by unfold WOf at e; unfold isP; omega)
def OfI (co : Nat → Nat → Int) (he : Nat → Bool) (lb : Nat → PcD) (j : Nat) (q : Nat) (num : Nat → Nat) (M : Mm) : Prop := mg M 72 7 = (q : Int) ∧ Chs j (gdP co he lb) q num ∧ ∀ c, c < q → mg M 74 c = (num c : Int) ∧ mg M 75 c = pMi (lb (num c)) ∧ mg M 76 c = pLi (lb (num c)) ∧ mg M 77 c = pKe (lb (num c))
theorem b_offers (hs : Sh M) (hp : CBp n ag jo pa co he M) (hok : OKp n pa co he) (h : CBl m lb ch M) (ho : OKl n m lb ch) (h7 : mg M 72 7 = 0) : wp (loopN (l_Band_programme_32 1 WH MO) FU (0, M)) (fun M' => Fr WOf M M' ∧ ∃ q num, OfI co he lb m q num M') := by
  have hm := ho.1
  refine wp_loop (fun j x => x.1 = (j : Int) ∧ Fr WOf M x.2 ∧ ∃ q num, OfI co he lb j q num x.2) m (by omega) ⟨rfl, Fr_rf, 0, fun _ => 0, h7, ⟨fun c hc => absurd hc (Nat.not_lt_zero _), fun c c' hc => absurd hc (Nat.not_lt_zero _), fun k hk => absurd hk (Nat.not_lt_zero _)⟩, fun c hc => absurd hc (Nat.not_lt_zero _)⟩ ?_
  rintro j ⟨x, M1⟩ hj ⟨e, hf, q, num, hO⟩
  simp only at e hf hO
  subst e
  have s1 := sh_WOf hs hf
  have p1 : CBp n ag jo pa co he M1 := CBp_fr hp hf (fun c x e => by unfold WOf at e; omega)
  have l1 : CBl m lb ch M1 := CBl_fr (n := n) hm h hf (fun c x e => by unfold WOf at e; omega)
  have ej : w32 ((j : Int) + 1) = ((j + 1 : Nat) : Int) := by rw [w32_s (by omega) (by omega)]; omega
  unfold l_Band_programme_32
  simp only []
  rw [show mg M1 (cI 1) 1 = 7 from p_0_1 s1, show mg M1 (cI 7) 1 = (m : Int) from l1.1, q_find s1 l1 hm, show mg M1 (cI 1) 5 = 62 from p_0_5 s1, show mg M1 (cI 1) 0 = 2 from p_0_0 s1]
  refine wI (by decide) (wC (fun c => wSr ?_) (fun c => ?_))
  · have : j = m := by omega
    subst this; exact ⟨hf, q, num, hO⟩
  have hj' : j < m := by omega
  rw [if_pos (show 0 ≤ (j : Int) ∧ (j : Int) < (m : Int) by omega), Int.toNat_natCast]
  have hod := (ho.2 j hj').1
  refine wX rfl (wE (pr_nz j) (wI (by decide) (wI (by decide) (wK (b_coversMust s1 p1 hok (by omega) (l1.2 j hj').1 hod) (fun r hr => ?_)))))
  obtain ⟨e1, _, f2⟩ := hr
  have hf2 : Fr WOf M r.2 := Fr_tr hf (Fr_sub f2 (fun c x e => by unfold WCo at e; unfold WOf; omega))
  have s2 := sh_WOf hs hf2
  have l2 : CBl m lb ch r.2 := CBl_fr (n := n) hm h hf2 (fun c x e => by unfold WOf at e; omega)
  have O2 : OfI co he lb j q num r.2 := by
    obtain ⟨o1, o2, o3⟩ := hO
    refine ⟨(f2.1 72 7 (by unfold WCo; omega)).trans o1, o2, fun c hc => ?_⟩
    rw [f2.1 74 c (by unfold WCo; omega), f2.1 75 c (by unfold WCo; omega), f2.1 76 c (by unfold WCo; omega), f2.1 77 c (by unfold WCo; omega)]
    exact o3 c hc
  obtain ⟨o1, ⟨c1, c2, c3⟩, o3⟩ := O2
  have hqj : q ≤ j := Chs_q ⟨c1, c2, c3⟩
  rw [e1]
  by_cases hl : lk co he (lb j) = 0
  · rw [if_pos hl]
    have hg : gdP co he lb j = true := by unfold gdP; exact decide_eq_true hl
    have hb := (l2.2 j hj').1
    refine wE (by decide) ?_
    rw [show mg r.2 (cI 1) 7 = 73 from p_0_7 s2]
    refine wI (by decide) ?_
    have ev : f_Planner_offer r.2 73 (j : Int) (pr j) = some (mp (mp (mp (mp (mp r.2 74 q (j : Int)) 75 q (pMi (lb j))) 76 q (pLi (lb j))) 77 q (pKe (lb j))) 72 7 ((q + 1 : Nat) : Int)) := by
      have e8 : ∀ x, mg (mp r.2 74 q (j : Int)) (8 + 4 * j) x = mg r.2 (8 + 4 * j) x := fun x => mg_mp_n (by omega)
      unfold f_Planner_offer
      simp only [lt, cI_pr, show cI 73 = 72 from rfl, o1, p_72_3 s2, show cI 75 = 74 from rfl, n_74 s2, Int.toNat_natCast]
      rw [if_pos (by omega), if_pos (by decide), if_pos (by omega)]
      have g4 : mg (mp r.2 74 q (j : Int)) 72 4 = 76 := by rw [mg_mp_n (by omega)]; exact p_72_4 s2
      have g7 : mg (mp r.2 74 q (j : Int)) 72 7 = (q : Int) := by rw [mg_mp_n (by omega)]; exact o1
      have g8 : mg (mp r.2 74 q (j : Int)) (8 + 4 * j) 4 = pMi (lb j) := by rw [mg_mp_n (by omega)]; exact hb.2.1
      rw [g4, show cI 76 = 75 from rfl, ml_mp, n_75 s2, g7, if_pos (by decide), if_pos (by omega), Int.toNat_natCast, g8]
      have h5 : mg (mp (mp r.2 74 q (j : Int)) 75 q (pMi (lb j))) 72 5 = 77 := by rw [mg_mp_n (by omega), mg_mp_n (by omega)]; exact p_72_5 s2
      have h7 : mg (mp (mp r.2 74 q (j : Int)) 75 q (pMi (lb j))) 72 7 = (q : Int) := by rw [mg_mp_n (by omega)]; exact g7
      have h8 : mg (mp (mp r.2 74 q (j : Int)) 75 q (pMi (lb j))) (8 + 4 * j) 5 = pLi (lb j) := by rw [mg_mp_n (by omega), mg_mp_n (by omega)]; exact hb.2.2.1
      rw [h5, show cI 77 = 76 from rfl, ml_mp, ml_mp, n_76 s2, h7, if_pos (by decide), if_pos (by omega), Int.toNat_natCast, h8]
      have k6 : mg (mp (mp (mp r.2 74 q (j : Int)) 75 q (pMi (lb j))) 76 q (pLi (lb j))) 72 6 = 78 := by rw [mg_mp_n (by omega), mg_mp_n (by omega), mg_mp_n (by omega)]; exact p_72_6 s2
      have k7 : mg (mp (mp (mp r.2 74 q (j : Int)) 75 q (pMi (lb j))) 76 q (pLi (lb j))) 72 7 = (q : Int) := by rw [mg_mp_n (by omega)]; exact h7
      have k8 : mg (mp (mp (mp r.2 74 q (j : Int)) 75 q (pMi (lb j))) 76 q (pLi (lb j))) (8 + 4 * j) 6 = pKe (lb j) := by rw [mg_mp_n (by omega), mg_mp_n (by omega), mg_mp_n (by omega)]; exact hb.2.2.2.1
      rw [k6, show cI 78 = 77 from rfl, ml_mp, ml_mp, ml_mp, n_77 s2, k7, if_pos (by decide), if_pos (by omega), Int.toNat_natCast, k8, mg_mp_n (by omega), k7, w32_s (by omega) (by omega)]
      rfl
    refine wX ev (wL (wSl ⟨hj', ej, Fr_wr (Fr_wr (Fr_wr (Fr_wr (Fr_wr hf2 (by unfold WOf; omega)) (by unfold WOf; omega)) (by unfold WOf; omega)) (by unfold WOf; omega)) (by unfold WOf; omega), q + 1, up num q j, mg_mp_s _ _ _ _, ⟨fun c hc => ?_, fun c c' hc hc' e => ?_, fun k hk hgk => ?_⟩, fun c hc => ?_⟩))
    · by_cases ec : c = q
      · rw [ec, up_s]; exact ⟨by omega, hg⟩
      · rw [up_n ec]
        have := c1 c (by omega)
        exact ⟨by omega, this.2⟩
    · by_cases ec : c = q
      · by_cases ec' : c' = q
        · omega
        · rw [ec, up_s, up_n ec'] at e
          have := (c1 c' (by omega)).1
          omega
      · by_cases ec' : c' = q
        · rw [ec', up_s, up_n ec] at e
          have := (c1 c (by omega)).1
          omega
        · rw [up_n ec, up_n ec'] at e
          exact c2 c c' (by omega) (by omega) e
    · by_cases ek : k = j
      · exact ⟨q, by omega, by rw [up_s, ek]⟩
      · obtain ⟨c, hc1, hc2⟩ := c3 k (by omega) hgk
        exact ⟨c, by omega, by rw [up_n (by omega)]; exact hc2⟩
    · by_cases ec : c = q
      · subst ec
        rw [up_s]
        simp [mg_mp]
      · rw [up_n ec]
        have := o3 c (by omega)
        simp [mg_mp, ec, this.1, this.2.1, this.2.2.1, this.2.2.2]
  · rw [if_neg hl]
    have hg : gdP co he lb j = false := by unfold gdP; exact decide_eq_false hl
    refine wI rfl (wL (wSl ⟨hj', ej, hf2, q, num, o1, ⟨fun c hc => ⟨by have := (c1 c hc).1; omega, (c1 c hc).2⟩, c2, fun k hk hgk => ?_⟩, o3⟩))
    by_cases ek : k = j
    · rw [ek, hg] at hgk; cases hgk
    · exact c3 k (by omega) hgk
end PLD
