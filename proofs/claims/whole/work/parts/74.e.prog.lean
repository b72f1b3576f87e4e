/-! the reference's programme -/
theorem VR_cg {m : Nat} {gd : Nat → Bool} {LI LI' : Nat → Int} {MO : Int} (h : ∀ k, k < m → LI k = LI' k) {len : Nat} {r : Nat → Nat} (hv : VR m gd LI MO len r) : VR m gd LI' MO len r := ⟨hv.1, hv.2.1, fun i hi => by rw [← h _ (hv.1 i (by omega)).1, ← h _ (hv.1 (i + 1) hi).1]; exact hv.2.2 i hi⟩
theorem stI_cg {m : Nat} {KE KE' : Nat → Int} (h : ∀ k, k < m → KE k = KE' k) {len : Nat} {r : Nat → Nat} (hr : ∀ i, i < len → r i < m) : sumN (stI KE r) len = sumN (stI KE' r) len := sum_cg len (fun i hi => by
  cases i with
  | zero => rfl
  | succ i => show kgp KE (r i) (r (i + 1)) = kgp KE' (r i) (r (i + 1)); unfold kgp; rw [h _ (hr i (by omega)), h _ (hr (i + 1) hi)])
theorem PlB_cg {m : Nat} {MI LI KE MI' LI' KE' : Nat → Int} {gd : Nat → Bool} {MO WH L : Int} (h1 : ∀ k, k < m → MI k = MI' k) (h2 : ∀ k, k < m → LI k = LI' k) (h3 : ∀ k, k < m → KE k = KE' k) {len : Nat} {g : Nat → Nat} (h : PlB m MI LI KE gd MO WH L len g) : PlB m MI' LI' KE' gd MO WH L len g := by
  obtain ⟨a1, a2, a3, a4, a5⟩ := h
  have s : ∀ (r : Nat → Nat) (lr : Nat), VR m gd LI' MO lr r → sumN (fun i => MI' (r i)) lr = sumN (fun i => MI (r i)) lr := fun r lr hr => sum_cg lr (fun i hi => (h1 _ (hr.1 i hi).1).symm)
  have v : ∀ (r : Nat → Nat) (lr : Nat), VR m gd LI' MO lr r → VR m gd LI MO lr r := fun r lr hr => VR_cg (fun k hk => (h2 k hk).symm) hr
  have a1' := VR_cg h2 a1
  refine ⟨a1', by rw [s g len a1']; exact a2, a3, fun r lr hr hw => ?_, fun r lr hr he => ?_⟩
  · rw [s r lr hr] at hw ⊢; exact a4 r lr (v r lr hr) hw
  · rw [s r lr hr] at he
    have := a5 r lr (v r lr hr) he
    rw [← stI_cg h3 (fun i hi => (a1.1 i hi).1), ← stI_cg h3 (fun i hi => (hr.1 i hi).1)]
    exact this
def WMg (c x : Nat) : Prop := (c = 79 ∧ (x = 0 ∨ x = 18 ∨ x = 19)) ∨ (95 ≤ c ∧ c ≤ 98)
section PRE
variable {n m : Nat} {ag jo pa : Nat → Int} {co : Nat → Nat → Int} {he : Nat → Bool} {lb : Nat → PcD} {ch : Nat → Nat → Int} {M : Mm} {MO WH : Int}
def gdP (co : Nat → Nat → Int) (he : Nat → Bool) (lb : Nat → PcD) (k : Nat) : Bool := decide (lk co he (lb k) = 0)
theorem m_good38 (hs : Sh M) (hp : CMp n ag jo pa co he M) (hok : OKp n pa co he) (h : CMl m lb ch M) (ho : OKl n m lb ch) (z3 : Int) : wp (loopN (l_Model_programme_38 80 WH MO z3) FU (0, M)) (fun M' => Fr (fun c _ => c = 98) M M' ∧ ∀ k, k < m → mg M' 98 k = if gdP co he lb k then 1 else 0) := by
  have hm := ho.1
  refine wp_loop (fun j s => s.1 = (j : Int) ∧ Fr (fun c _ => c = 98) M s.2 ∧ ∀ k, k < j → mg s.2 98 k = if gdP co he lb k then 1 else 0) m (by omega) ⟨rfl, Fr_rf, fun k hk => absurd hk (Nat.not_lt_zero _)⟩ ?_
  rintro j ⟨x, M1⟩ hj ⟨e, hf, hg⟩
  simp only at e hf hg
  subst e
  have s1 : Sh M1 := Sh_fr hs hf (fun c k e => by unfold isP; omega)
  have p1 : CMp n ag jo pa co he M1 := CMp_fr hp hf (fun c k e => by omega)
  have l1 : CMl m lb ch M1 := CMl_fr h hf (fun c k e => by omega)
  have ej : w32 ((j : Int) + 1) = ((j + 1 : Nat) : Int) := by rw [w32_s (by omega) (by omega)]; omega
  unfold l_Model_programme_38
  simp only []
  rw [show mg M1 (cI 80) 7 = (m : Int) from l1.1]
  refine wC (fun c => wSr ⟨hf, fun k hk => hg k (by omega)⟩) (fun c => ?_)
  have hj' : j < m := by omega
  have tail : ∀ y : Int, y = (if gdP co he lb j then 1 else 0) → wp (j_Model_programme_67_38 M1 80 WH MO z3 (j : Int) y (j : Int) (mg M1 (cI 80) 23)) (Sum.elim (fun s' => j < m ∧ s'.1 = ((j + 1 : Nat) : Int) ∧ Fr (fun c _ => c = 98) M s'.2 ∧ ∀ k, k < j + 1 → mg s'.2 98 k = if gdP co he lb k then 1 else 0) (fun M' => Fr (fun c _ => c = 98) M M' ∧ ∀ k, k < m → mg M' 98 k = if gdP co he lb k then 1 else 0)) := by
    intro y hy
    unfold j_Model_programme_67_38
    rw [show mg M1 (cI 80) 23 = 99 from p_79_23 s1, show cI 99 = 98 from rfl, n_98 s1, Int.toNat_natCast]
    refine wI (by decide) (wI (by rw [hy]; split <;> simp) (wI (by omega) (wL (wL (wSl ⟨hj', ej, Fr_wr hf rfl, fun k hk => ?_⟩)))))
    rw [mg_mp]
    by_cases e : k = j
    · rw [if_pos ⟨rfl, e⟩, e]; exact hy
    · rw [if_neg (by omega)]; exact hg k (by omega)
  refine wX (m_lacking s1 p1 hok (by omega) (l1.2 j hj').1 (ho.2 j hj').1) (wC (fun c1 => tail 0 ?_) (fun c1 => tail 1 ?_))
  · unfold gdP; rw [decide_eq_false (by omega)]; rfl
  · unfold gdP; rw [decide_eq_true (by omega)]; rfl
theorem m_zero77 (hs : Sh M) (z3 : Int) : wp (loopN (l_Model_programme_77 80 WH MO z3) FU (0, M)) (fun M' => Fr W97 M M' ∧ ∀ k, k < 10240 → mg M' 97 k = 0) := by
  refine wp_loop (fun j s => s.1 = (j : Int) ∧ Fr W97 M s.2 ∧ ∀ k, k < j → mg s.2 97 k = 0) 10240 (by omega) ⟨rfl, Fr_rf, fun k hk => absurd hk (Nat.not_lt_zero _)⟩ ?_
  rintro j ⟨x, M1⟩ hj ⟨e, hf, hg⟩
  simp only at e hf hg
  subst e
  have s1 : Sh M1 := Sh_fr hs hf (fun c k e => by unfold W97 at e; unfold isP; omega)
  unfold l_Model_programme_77
  simp only []
  refine wC (fun c => wSr ⟨hf, fun k hk => hg k (by omega)⟩) (fun c => ?_)
  rw [show mg M1 (cI 80) 22 = 98 from p_79_22 s1, show cI 98 = 97 from rfl, n_97 s1, Int.toNat_natCast]
  refine wI (by decide) (wI (by omega) (wL (wL (wSl ⟨by omega, by rw [w32_s (by omega) (by omega)]; rfl, Fr_wr hf rfl, fun k hk => ?_⟩))))
  rw [mg_mp]; split
  · rfl
  · exact hg k (by omega)
theorem m_programme_t (hs : Sh M) (hp : CMp n ag jo pa co he M) (hok : OKp n pa co he) (h : CMl m lb ch M) (ho : OKl n m lb ch) (hWH : 0 ≤ WH ∧ WH ≤ 600) (hMO : 0 ≤ MO ∧ MO ≤ 18) : wp (f_Model_programme M 80 WH MO) (fun q => ∃ (len : Nat) (g : Nat → Nat), PlB m (fun k => pMi (lb k)) (fun k => pLi (lb k)) (fun k => pKe (lb k)) (gdP co he lb) MO WH q.1 len g ∧ mg q.2 79 18 = (len : Int) ∧ mg q.2 79 19 = sumN (stI (fun k => pKe (lb k)) g) len ∧ (∀ i, i < len → mg q.2 95 i = (g i : Int)) ∧ Fr WMg M q.2) := by
  have hm := ho.1
  have hpm := pow_m hm
  have hp1 := pow_1 m
  have f0 : Fr WMg M (mp M 79 0 0) := Fr_mp (Or.inl ⟨rfl, Or.inl rfl⟩)
  have s0 : Sh (mp M 79 0 0) := Sh_mp hs (by unfold isP; omega)
  have p0 : CMp n ag jo pa co he (mp M 79 0 0) := CMp_fr hp f0 (fun c k e => by unfold WMg at e; omega)
  have l0 : CMl m lb ch (mp M 79 0 0) := CMl_fr h f0 (fun c k e => by unfold WMg at e; omega)
  unfold f_Model_programme
  refine wL ?_
  rw [show cI 80 = 79 from rfl]
  refine wE (by omega) (wE (by omega) (wE (by omega) (wI (by omega) ?_)))
  generalize hM0 : mp M 79 0 0 = M0 at *
  rw [l0.1, bShl_1 m (by omega)]
  refine wL (wK (m_good38 s0 p0 hok l0 ho _) (fun M1 ⟨f1, g1⟩ => ?_))
  have f1' : Fr WMg M M1 := Fr_tr f0 (Fr_sub f1 (fun c x e => Or.inr (by omega)))
  have s1 : Sh M1 := Sh_fr s0 f1 (fun c k e => by unfold isP; omega)
  have l1 : CMl m lb ch M1 := CMl_fr l0 f1 (fun c k e => by omega)
  refine wK (m_zero77 s1 _) (fun M2 ⟨f2, g2⟩ => ?_)
  have f2' : Fr WMg M M2 := Fr_tr f1' (Fr_sub f2 (fun c x e => by unfold W97 at e; exact Or.inr (by omega)))
  have s2 : Sh M2 := Sh_fr s1 f2 (fun c k e => by unfold W97 at e; unfold isP; omega)
  have l2 : CMl m lb ch M2 := CMl_fr l1 f2 (fun c k e => by unfold W97 at e; omega)
  rw [p_79_22 s2, show cI 98 = 97 from rfl, n_97 s2, show (0 : Int).toNat = 0 from rfl]
  refine wI (by decide) (wI (by decide) (wL ?_))
  have f3 : Fr W97 M2 (mp M2 97 0 1) := Fr_mp rfl
  have f3' : Fr WMg M (mp M2 97 0 1) := Fr_tr f2' (Fr_sub f3 (fun c x e => by unfold W97 at e; exact Or.inr (by omega)))
  have s3 : Sh (mp M2 97 0 1) := Sh_fr s2 f3 (fun c k e => by unfold W97 at e; unfold isP; omega)
  have l3 : CMl m lb ch (mp M2 97 0 1) := CMl_fr l2 f3 (fun c k e => by unfold W97 at e; omega)
  have g3 : ∀ k, k < m → mg (mp M2 97 0 1) 98 k = if gdP co he lb k then 1 else 0 := fun k hk => by
    rw [mg_mp_n (by omega), f2.1 98 k (by unfold W97; omega)]; exact g1 k hk
  have cS : ∀ (MI LI : Nat → Int), CanS m (gdP co he lb) MI LI MO WH (mp M2 97 0 1) := fun MI LI => ⟨mg_mp_s _ _ _ _, fun s l hs' hl => by
    rw [mg_mp]
    by_cases e : 10 * s + l = 0
    · rw [if_pos ⟨rfl, e⟩]
      exact Or.inr ⟨rfl, Or.inl ⟨by omega, by omega⟩⟩
    · rw [if_neg (by omega)]
      exact Or.inl (g2 _ (by omega))⟩
  generalize hM3 : mp M2 97 0 1 = M3 at *
  -- minutes, lips, keys as they lie there
  have hRP : RP m (fun x => mg M3 86 x) (fun x => mg M3 87 x) (fun x => mg M3 88 x) (gdP co he lb) M3 := ⟨s3, l3.1, fun x _ => ⟨rfl, rfl, rfl⟩, g3⟩
  have eMI : ∀ k, k < m → mg M3 86 k = pMi (lb k) := fun k hk => (l3.2 k hk).1.2.1
  have eLI : ∀ k, k < m → mg M3 87 k = pLi (lb k) := fun k hk => (l3.2 k hk).1.2.2.1
  have eKE : ∀ k, k < m → mg M3 88 k = pKe (lb k) := fun k hk => (l3.2 k hk).1.2.2.2.1
  have bMI : ∀ k, k < m → 1 ≤ mg M3 86 k ∧ mg M3 86 k ≤ 60 := fun k hk => by rw [eMI k hk]; exact (ho.2 k hk).1.2.1
  have bLI : ∀ k, k < m → 0 ≤ mg M3 87 k ∧ mg M3 87 k ≤ 9 := fun k hk => by rw [eLI k hk]; exact (ho.2 k hk).1.2.2.1
  have bKE : ∀ k, k < m → 0 ≤ mg M3 88 k ∧ mg M3 88 k ≤ 11 := fun k hk => by rw [eKE k hk]; exact (ho.2 k hk).1.2.2.2.1
  generalize hMIe : (fun x => mg M3 86 x) = MI at *
  generalize hLIe : (fun x => mg M3 87 x) = LI at *
  generalize hKEe : (fun x => mg M3 88 x) = KE at *
  have eMI' : ∀ k, k < m → MI k = pMi (lb k) := fun k hk => by rw [← hMIe]; exact eMI k hk
  have eLI' : ∀ k, k < m → LI k = pLi (lb k) := fun k hk => by rw [← hLIe]; exact eLI k hk
  have eKE' : ∀ k, k < m → KE k = pKe (lb k) := fun k hk => by rw [← hKEe]; exact eKE k hk
  have bMI' : ∀ k, k < m → 1 ≤ MI k ∧ MI k ≤ 60 := fun k hk => by rw [← hMIe]; exact bMI k hk
  have bLI' : ∀ k, k < m → 0 ≤ LI k ∧ LI k ≤ 9 := fun k hk => by rw [← hLIe]; exact bLI k hk
  have bKE' : ∀ k, k < m → 0 ≤ KE k ∧ KE k ≤ 11 := fun k hk => by rw [← hKEe]; exact bKE k hk
  have bM0 : ∀ k, k < m → 0 ≤ MI k ∧ MI k ≤ 60 := fun k hk => by have := bMI' k hk; omega
  refine wK (m_can112 hRP hm bM0 bLI' (cS MI LI)) (fun t ht => ?_)
  obtain ⟨k1, k2, k3, k4, k5⟩ := ht
  have R4 := sh_97 hRP k1
  rw [w32_s (by omega) (by omega)]
  refine wL (wK (m_left249 (MO := MO) (L := t.1) R4 hm bM0) (fun M5 ⟨f5, hO⟩ => ?_))
  have R5 := sh_96 R4 f5
  have f5' : Fr WMg M M5 := Fr_tr (Fr_tr f3' (Fr_sub k1 (fun c x e => by unfold W97 at e; exact Or.inr (by omega)))) (Fr_sub f5 (fun c x e => by unfold W96 at e; exact Or.inr (by omega)))
  rw [p_79_21 R5.1, show cI 97 = 96 from rfl, n_96 R5.1]
  refine wI (by decide) (wI (by decide) (wL (wL ?_)))
  have f6 : Fr (fun c x => c = 79 ∧ (x = 18 ∨ x = 19)) M5 (mp (mp M5 79 19 (mg M5 96 0)) 79 18 0) := Fr_wr (Fr_mp ⟨rfl, Or.inr rfl⟩) ⟨rfl, Or.inl rfl⟩
  have e19 : mg (mp (mp M5 79 19 (mg M5 96 0)) 79 18 0) 79 19 = mg M5 96 0 := by rw [mg_mp_n (by omega), mg_mp_s]
  have e18 : mg (mp (mp M5 79 19 (mg M5 96 0)) 79 18 0) 79 18 = 0 := mg_mp_s _ _ _ _
  generalize hM6 : mp (mp M5 79 19 (mg M5 96 0)) 79 18 0 = M6 at *
  have R6 : RP m MI LI KE (gdP co he lb) M6 := RP_fr R5 f6 (fun c k w => by unfold isP; omega)
  have r6 : rd96 M6 = rd96 M5 := funext (fun s => funext (fun l => f6.1 96 _ (by omega)))
  have O6 : LfO m MI LI KE (gdP co he lb) MO t.1 0 M6 := by unfold LfO; rw [r6]; exact hO
  obtain ⟨r0, l0', v0, T0, W0⟩ := lng_at k3 hWH.1
  refine wK (m_plan451 R6 hm bMI' bLI' bKE' O6 k4.1 ⟨r0, l0', v0, T0⟩ e18) (fun M7 hM7 => ?_)
  obtain ⟨len, g, q1, q2, q3, q4, q5, q6, q7, q8⟩ := hM7
  have hbest := plan_best (WH := WH) hm bMI' bLI' bKE' O6 q1 q2 q3 q4 q5 W0 (fun r lr hr hw => lng_ge hm bM0 bLI' k2 k4.1 k5 hr hw)
  refine wS ⟨len, g, PlB_cg eMI' eLI' eKE' hbest, q7, ?_, q8, Fr_tr (Fr_tr f5' (Fr_sub f6 (fun c x e => Or.inl ⟨e.1, Or.inr e.2⟩))) (Fr_sub q6 (fun c x e => by unfold W95 at e; unfold WMg; omega))⟩
  rw [q6.1 79 19 (by unfold W95; omega), e19]
  have : mg M5 96 0 = rd96 M6 0 0 := by rw [r6]; rfl
  rw [this, q3]
  exact stI_cg eKE' (fun i hi => (q1.1 i hi).1)
theorem m_programme_f (hc : ¬ ((0 ≤ WH ∧ WH ≤ 600) ∧ (0 ≤ MO ∧ MO ≤ 18))) : f_Model_programme M 80 WH MO = some (-1, mp M 79 0 0) := by
  unfold f_Model_programme
  simp only [lt]
  by_cases c1 : WH < 0
  · rw [if_pos c1]; rfl
  rw [if_neg c1]
  by_cases c2 : 600 < WH
  · rw [if_pos c2]; rfl
  rw [if_neg c2]
  by_cases c3 : MO < 0
  · rw [if_pos c3]; rfl
  rw [if_neg c3, if_neg (by omega)]; rfl
end PRE
