section PLE
variable {n m : Nat} {ag jo pa : Nat → Int} {co : Nat → Nat → Int} {he : Nat → Bool} {lb : Nat → PcD} {ch : Nat → Nat → Int} {M : Mm} {MO WH : Int} {MI LI KE mi li ke : Nat → Int} {gd : Nat → Bool} {q bc : Nat} {num : Nat → Nat}
theorem b_arrange33 (h : PQ q bc num mi li ke M) (ho : QO q num mi li ke) (hWH : 0 ≤ WH) (hm : m ≤ 10) (hc : Chs m gd q num) (e1 : ∀ c, c < q → mi c = MI (num c)) (e2 : ∀ c, c < q → li c = LI (num c)) (e3 : ∀ c, c < q → ke c = KE (num c)) (hKE : ∀ k, k < m → 0 ≤ KE k ∧ KE k ≤ 11) : wp (j_Planner_arrange_33 M 73 WH MO ((2 ^ q : Nat) : Int)) (fun p => ∃ (len : Nat) (a : Nat → Nat), PlC m MI LI KE gd MO WH p.1 len a ∧ mg p.2 72 1 = (len : Int) ∧ mg p.2 72 2 = sumN (stI KE a) len ∧ (∀ i, i < len → mg p.2 73 i = (a i : Int)) ∧ Fr (fun c x => c = bc ∨ WKr c x) M p.2) := by
  have hqm := pow_m ho.1
  unfold j_Planner_arrange_33
  refine wK (b_arrange45 h ho) (fun t ht => ?_)
  obtain ⟨ls, e4, f1, hO, hA⟩ := ht
  obtain ⟨rc, len, hB, hpc, hle, hls⟩ := ar_row ho hWH hO hA
  obtain ⟨hP, hv⟩ := bsr_plc hm hc e1 e2 e3 hB
  have hlen : len ≤ 10 := by have := VR_len hP.2.1; omega
  rw [e4]
  refine wX (b_bitCount t.2.2.2 (show ls < 16384 by omega)) ?_
  rw [hpc]
  have hst := sum_bd (f := stI KE (fun i => if i < len then num (rc i) else 0)) (a := 0) (b := 6) len (fun i hi => by
    cases i with
    | zero => exact ⟨Int.le_refl 0, (by decide : (0 : Int) ≤ 6)⟩
    | succ i => exact kgp_b hKE (hP.2.1.1 i (by omega)).1 (hP.2.1.1 (i + 1) hi).1)
  have s1 : Sh t.2.2.2 := (PQ_fr h f1).1
  refine wK (b_keepRow s1 hlen (st := sumN (stI KE (fun i => if i < len then num (rc i) else 0)) len) ⟨by omega, by omega⟩ hP.1 (by rw [hle]; exact hv)) (fun M2 hM2 => ?_)
  obtain ⟨f2, k1, k2, k3⟩ := hM2
  exact wS ⟨len, _, hP, k1, k2, k3, Fr_tr (Fr_sub f1 (fun c x e => Or.inl e)) (Fr_sub f2 (fun c x e => Or.inr e))⟩
theorem b_programme_t (hs : Sh M) (hp : CBp n ag jo pa co he M) (hok : OKp n pa co he) (h : CBl m lb ch M) (ho : OKl n m lb ch) (hbc : PBc M) (hWH : 0 ≤ WH ∧ WH ≤ 600) (hMO : 0 ≤ MO ∧ MO ≤ 18) : wp (f_Band_programme M 1 WH MO) (fun p => ∃ (len : Nat) (a : Nat → Nat), PlC m (fun k => pMi (lb k)) (fun k => pLi (lb k)) (fun k => pKe (lb k)) (gdP co he lb) MO WH p.1 len a ∧ mg p.2 72 1 = (len : Int) ∧ mg p.2 72 2 = sumN (stI (fun k => pKe (lb k)) a) len ∧ (∀ i, i < len → mg p.2 73 i = (a i : Int)) ∧ FrG M p.2 ∧ PBc p.2) := by
  have hm := ho.1
  obtain ⟨bc, b1, b2, b3⟩ := hbc
  unfold f_Band_programme
  simp only [q_within, Option.bind_some, if_pos hWH, if_pos hMO]
  rw [show mg M (cI 1) 7 = 73 from p_0_7 hs]
  refine wE (by decide) (wI (by decide) (wI (by decide) ?_))
  unfold f_Planner_forgetChoices
  refine wX (a := mp M 72 7 0) rfl ?_
  have f0 : Fr WOf M (mp M 72 7 0) := Fr_mp (by unfold WOf; omega)
  have e7 : mg (mp M 72 7 0) 72 7 = 0 := mg_mp_s _ _ _ _
  generalize hM0 : mp M 72 7 0 = M0 at *
  have s0 := sh_WOf hs f0
  have p0 : CBp n ag jo pa co he M0 := CBp_fr hp f0 (fun c x e => by unfold WOf at e; omega)
  have l0 : CBl m lb ch M0 := CBl_fr (n := n) hm h f0 (fun c x e => by unfold WOf at e; omega)
  refine wK (b_offers s0 p0 hok l0 ho e7) (fun M1 hM1 => ?_)
  obtain ⟨f1, q, num, o1, hc, o3⟩ := hM1
  have f1' : Fr WOf M M1 := Fr_tr f0 f1
  have s1 := sh_WOf hs f1'
  have hqm : q ≤ m := Chs_q hc
  have hq10 : q ≤ 10 := by omega
  have hpq := pow_m hq10
  have b1' : mg M1 72 8 = (bc : Int) + 1 := (f1'.1 72 8 (by unfold WOf; omega)).trans b1
  have hqo : QO q num (fun c => pMi (lb (num c))) (fun c => pLi (lb (num c))) (fun c => pKe (lb (num c))) := ⟨hq10, fun c hc' => by
    have h9 := (hc.1 c hc').1
    have h8 := (ho.2 _ h9).1
    exact ⟨by omega, h8.2.1, h8.2.2.1, h8.2.2.2.1⟩⟩
  have hKE : ∀ k, k < m → 0 ≤ pKe (lb k) ∧ pKe (lb k) ≤ 11 := fun k hk => (ho.2 k hk).1.2.2.2.1
  have hmul : 2 ^ q * q ≤ 10240 := by
    have h3 : 2 ^ q * q ≤ 1024 * 10 := Nat.mul_le_mul hpq hq10
    omega
  rw [show mg M1 (cI 1) 7 = 73 from p_0_7 s1]
  refine wI (by decide) ?_
  unfold f_Planner_arrange
  rw [show mg M1 (cI 73) 7 = (q : Int) from o1, bShl_1 q (by omega), show mg M1 (cI 73) 8 = (bc : Int) + 1 from b1', cI_s]
  refine wB (wL ?_)
  rw [← Int.natCast_mul, w32_s (by omega) (by omega)]
  refine wI (by omega) (wC (fun c1 => ?_) (fun c1 => ?_))
  · have hPQ : PQ q bc num (fun c => pMi (lb (num c))) (fun c => pLi (lb (num c))) (fun c => pKe (lb (num c))) M1 := ⟨s1, o1, b1', b2, by omega, o3⟩
    refine wM (b_arrange33 (MI := fun k => pMi (lb k)) (LI := fun k => pLi (lb k)) (KE := fun k => pKe (lb k)) hPQ hqo hWH.1 hm hc (fun _ _ => rfl) (fun _ _ => rfl) (fun _ _ => rfl) hKE) (fun p hp' => ?_)
    obtain ⟨len, a, r1, r2, r3, r4, r5⟩ := hp'
    have sh5 : Sh p.2 := Sh_fr s1 r5 (fun c x e => by unfold WKr at e; unfold isP; omega)
    refine wS ⟨len, a, r1, r2, r3, r4, ⟨fun c k hw => ?_, sh5, ?_, ?_⟩, bc, ?_, b2, ?_⟩
    · have h1 : ¬ WOf c k := fun e => hw (by unfold WOf at e; unfold WPg; omega)
      have h2 : ¬ (c = bc ∨ WKr c k) := fun e => hw (by unfold WKr at e; unfold WPg; omega)
      rw [r5.1 c k h2, f1'.1 c k h1]
    · rw [r5.2.2.1, f1'.2.2.1]; omega
    · rw [r5.2.2.2, f1'.2.2.2]; omega
    · rw [r5.1 72 8 (by unfold WKr; omega)]; exact b1'
    · rw [r5.2.2.1, f1'.2.2.1]; exact b3
  · have hn9 : 109 ≤ mN M1 := s1.2.2.2
    have hbcn : bc ≠ mN M1 := by have := f1'.2.2.1; omega
    rw [Int.toNat_natCast, show cI 73 = 72 from rfl]
    refine wI (by omega) (wL (wL ?_))
    have s2 : Sh (mp (mw M1 (2 ^ q * q)) 72 8 ((mN M1 : Int) + 1)) := Sh_mp (Sh_mw s1 _) (by unfold isP; omega)
    have g2 : ∀ c k, c ≠ mN M1 → ¬ (c = 72 ∧ k = 8) → mg (mp (mw M1 (2 ^ q * q)) 72 8 ((mN M1 : Int) + 1)) c k = mg M1 c k := fun c k h1 h2 => by rw [mg_mp_n h2, mg_mw, if_neg h1]
    have g8 : mg (mp (mw M1 (2 ^ q * q)) 72 8 ((mN M1 : Int) + 1)) 72 8 = (mN M1 : Int) + 1 := mg_mp_s _ _ _ _
    have gl : ml (mp (mw M1 (2 ^ q * q)) 72 8 ((mN M1 : Int) + 1)) (mN M1) = 2 ^ q * q := by rw [ml_mp, ml_mw, if_pos rfl]
    have gN : mN (mp (mw M1 (2 ^ q * q)) 72 8 ((mN M1 : Int) + 1)) = mN M1 + 1 := rfl
    have gZ : mZ (mp (mw M1 (2 ^ q * q)) 72 8 ((mN M1 : Int) + 1)) = mZ M1 + 2 ^ q * q := rfl
    generalize hM2 : mp (mw M1 (2 ^ q * q)) 72 8 ((mN M1 : Int) + 1) = M2 at *
    have hPQ : PQ q (mN M1) num (fun c => pMi (lb (num c))) (fun c => pLi (lb (num c))) (fun c => pKe (lb (num c))) M2 := ⟨s2, by rw [g2 72 7 (by omega) (by omega)]; exact o1, g8, Or.inr hn9, by rw [gl]; exact Nat.le_refl _, fun c hc' => by
      rw [g2 74 c (by omega) (by omega), g2 75 c (by omega) (by omega), g2 76 c (by omega) (by omega), g2 77 c (by omega) (by omega)]; exact o3 c hc'⟩
    refine wM (b_arrange33 (MI := fun k => pMi (lb k)) (LI := fun k => pLi (lb k)) (KE := fun k => pKe (lb k)) hPQ hqo hWH.1 hm hc (fun _ _ => rfl) (fun _ _ => rfl) (fun _ _ => rfl) hKE) (fun p hp' => ?_)
    obtain ⟨len, a, r1, r2, r3, r4, r5⟩ := hp'
    have sh5 : Sh p.2 := Sh_fr s2 r5 (fun c x e => by unfold WKr at e; unfold isP; omega)
    refine wS ⟨len, a, r1, r2, r3, r4, ⟨fun c k hw => ?_, sh5, ?_, ?_⟩, mN M1, ?_, Or.inr hn9, ?_⟩
    · have h1 : ¬ WOf c k := fun e => hw (by unfold WOf at e; unfold WPg; omega)
      have h2 : ¬ (c = mN M1 ∨ WKr c k) := fun e => hw (by unfold WKr at e; unfold WPg; omega)
      have h3 : ¬ (c = 72 ∧ k = 8) := fun e => hw (by unfold WPg; omega)
      rw [r5.1 c k h2, g2 c k (fun e => h2 (Or.inl e)) h3, f1'.1 c k h1]
    · rw [r5.2.2.1, gN, f1'.2.2.1]; omega
    · rw [r5.2.2.2, gZ, f1'.2.2.2]; omega
    · rw [r5.1 72 8 (by unfold WKr; omega)]; exact g8
    · rw [r5.2.2.1, gN]; omega
theorem b_programme_f (hc : ¬ ((0 ≤ WH ∧ WH ≤ 600) ∧ (0 ≤ MO ∧ MO ≤ 18))) : f_Band_programme M 1 WH MO = some (-1, M) := by
  unfold f_Band_programme
  by_cases c1 : 0 ≤ WH ∧ WH ≤ 600
  · have c2 : ¬ (0 ≤ MO ∧ MO ≤ 18) := fun c2 => hc ⟨c1, c2⟩
    simp only [q_within, Option.bind_some, if_pos c1, if_neg c2]
    rfl
  · simp only [q_within, Option.bind_some, if_neg c1]
    rfl
/-- both plan alike -/
theorem plan_same (ho : OKl n m lb ch) {L1 L2 : Int} {l1 l2 : Nat} {a g : Nat → Nat} (h1 : PlC m (fun k => pMi (lb k)) (fun k => pLi (lb k)) (fun k => pKe (lb k)) gd MO WH L1 l1 a) (h2 : PlB m (fun k => pMi (lb k)) (fun k => pLi (lb k)) (fun k => pKe (lb k)) gd MO WH L2 l2 g) : L1 = L2 ∧ l1 = l2 ∧ sumN (stI (fun k => pKe (lb k)) a) l1 = sumN (stI (fun k => pKe (lb k)) g) l2 ∧ ∀ i, i < l1 → a i = g i := by
  have hm := ho.1
  obtain ⟨a0, a1, a2, a3, a4⟩ := h1
  obtain ⟨g1, g2, g3, g4, g5⟩ := h2
  have x1 := g4 a l1 a1 (by rw [a2]; exact a3)
  have x2 := a4 g l2 g1 (by rw [g2]; exact g3)
  have eL : L1 = L2 := by rw [a2] at x1; rw [g2] at x2; omega
  subst eL
  have x3 := g5 a l1 a1 a2
  have x4 : sumN (stI (fun k => pKe (lb k)) a) l1 * 10000000000 + dqS a l1 ≤ sumN (stI (fun k => pKe (lb k)) g) l2 * 10000000000 + dqS g l2 := by
    rcases x2 with x2 | x2
    · rw [g2] at x2; omega
    · exact x2.2
  have l1m := VR_len a1
  have l2m := VR_len g1
  have hg' : ∀ i, i < l2 → (fun i => if i < l2 then g i else 0) i = g i := fun i hi => if_pos hi
  have hd : dqS (fun i => if i < l2 then g i else 0) l2 = dqS g l2 := sum_cg l2 (fun i hi => by rw [hg' i hi])
  have ht : sumN (fun i => (fun k => if k < m then pMi (lb k) else 1) ((fun i => if i < l2 then g i else 0) i)) l2 = sumN (fun i => pMi (lb (g i))) l2 := sum_cg l2 (fun i hi => by
    show (if (if i < l2 then g i else 0) < m then pMi (lb (if i < l2 then g i else 0)) else 1) = _
    rw [if_pos hi, if_pos (g1.1 i hi).1])
  have ht2 : sumN (fun i => (fun k => if k < m then pMi (lb k) else 1) (a i)) l1 = sumN (fun i => pMi (lb (a i))) l1 := sum_cg l1 (fun i hi => by
    show (if a i < m then pMi (lb (a i)) else 1) = _
    rw [if_pos (a1.1 i hi).1])
  have := prog_eq (mi := fun k => if k < m then pMi (lb k) else 1) (a := a) (b := fun i => if i < l2 then g i else 0) (la := l1) (lb := l2) (Sa := sumN (stI (fun k => pKe (lb k)) a) l1) (Sb := sumN (stI (fun k => pKe (lb k)) g) l2) a0 (fun j => by
    show (if j < l2 then g j else 0) < 10
    split
    · rename_i hj; have := (g1.1 j hj).1; omega
    · omega) (by omega) (by omega) (fun k _ => by
    show 1 ≤ (if k < m then pMi (lb k) else 1)
    split
    · rename_i hk; exact (ho.2 k hk).1.2.1.1
    · omega) (by rw [ht, ht2]; exact a2.trans g2.symm) (by rw [hd]; exact x4) x3.1 (fun e i hi1 hi2 hag => by
    rw [if_pos hi2]
    exact x3.2 e i hi1 hi2 (fun j hj => by rw [hag j hj, if_pos (by omega)]))
  obtain ⟨y1, y2, y3⟩ := this
  exact ⟨rfl, y1, y2, fun i hi => by rw [y3 i hi]; exact hg' i (by omega)⟩
end PLE
