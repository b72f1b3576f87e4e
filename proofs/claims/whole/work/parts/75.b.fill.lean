/-! the class's row of the best -/
def BtO (q : Nat) (num : Nat → Nat) (mi li ke : Nat → Int) (MO WH : Int) (Bt : Nat → Nat → Int) (S : Nat) : Prop := ∀ s l, 1 ≤ s → s < S → l < q → Bt s l = BV q num mi li ke MO WH Bt s l
theorem q_lt {s s' q l : Nat} (hs : s' < s) (hl : l < q) : s' * q + l < s * q := by
  have h : (s' + 1) * q ≤ s * q := Nat.mul_le_mul_right q hs
  rw [Nat.add_mul] at h
  omega
section PLB
variable {q bc : Nat} {num : Nat → Nat} {mi li ke : Nat → Int} {M : Mm} {MO WH : Int} {Bt Bt' : Nat → Nat → Int}
theorem BV_cg {s l : Nat} (h : ∀ c, c < q → s.testBit l = true → Bt (wo s l) c = Bt' (wo s l) c) : BV q num mi li ke MO WH Bt s l = BV q num mi li ke MO WH Bt' s l := by
  unfold BV
  by_cases c : mS mi q s ≤ WH ∧ s.testBit l = true
  · rw [if_pos c, if_pos c]
    by_cases c0 : wo s l = 0
    · rw [if_pos c0, if_pos c0]
    · rw [if_neg c0, if_neg c0]
      have e : ∀ n, n ≤ q → cmM (cmF num li ke MO Bt (wo s l) l) n = cmM (cmF num li ke MO Bt' (wo s l) l) n := by
        intro n
        induction n with
        | zero => intro _; rfl
        | succ n ih =>
          intro hn
          show imin (cmM _ n) _ = imin (cmM _ n) _
          rw [ih (by omega)]
          have : cmF num li ke MO Bt (wo s l) l n = cmF num li ke MO Bt' (wo s l) l n := by unfold cmF; rw [h n (by omega) c.2]
          rw [this]
      exact e q (Nat.le_refl _)
  · rw [if_neg c, if_neg c]
theorem wo_pcn {s l : Nat} (hl : l < 14) (hsl : s.testBit l = true) : pcn s = pcn (wo s l) + 1 := by
  have h4 : (wo s l).testBit l = false := by rw [wo_tb]; simp
  have h5 := cnt_ad (g := (wo s l).testBit) hl h4
  unfold pcn
  rw [← h5]
  exact cnt_cg 14 (fun p _ => by rw [← tb_or_dec (wo s l) l p, wo_or hsl])
theorem bt_bound (ho : QO q num mi li ke) {S : Nat} (hS : S ≤ 2 ^ q) (h : BtO q num mi li ke MO WH Bt S) : BtB q Bt S := by
  obtain ⟨hq, hd⟩ := ho
  have hqm := pow_m hq
  intro s
  induction s using Nat.strongRecOn with
  | _ s ih =>
    intro l h1 h2 hl
    rw [h s l h1 h2 hl]
    unfold BV
    by_cases c : mS mi q s ≤ WH ∧ s.testBit l = true
    · rw [if_pos c]
      have hwl := wo_lt c.2
      have hpc := wo_pcn (show l < 14 by omega) c.2
      have hp10 := pcn_10 (show s < 1024 by omega)
      have hdp := dq_p (pcn (wo s l)) (by omega)
      have hnum := (hd l hl).1
      have hdig : 0 ≤ (num l : Int) * dq (pcn (wo s l)) ∧ (num l : Int) * dq (pcn (wo s l)) ≤ 9000000000 := by
        have h1 : (num l : Int) * dq (pcn (wo s l)) ≤ 9 * dq (pcn (wo s l)) := Int.mul_le_mul_of_nonneg_right (by omega) (by omega)
        have h2 : 0 ≤ (num l : Int) * dq (pcn (wo s l)) := Int.mul_nonneg (by omega) (by omega)
        omega
      by_cases c0 : wo s l = 0
      · rw [if_pos c0]; exact Or.inr ⟨hdig.1, by rw [hpc]; omega⟩
      · rw [if_neg c0]
        rcases Classical.em (cmM (cmF num li ke MO Bt (wo s l) l) q = FAR) with e | e
        · exact Or.inl e
        · obtain ⟨z, z1, z2⟩ := cmM_at _ q e
          refine Or.inr ?_
          rw [← z2] at e ⊢
          unfold cmF at e ⊢
          split at e
          · rename_i hc
            rw [Bool.and_eq_true, Bool.and_eq_true, decide_eq_true_iff, decide_eq_true_iff] at hc
            rw [if_pos (by rw [Bool.and_eq_true, Bool.and_eq_true, decide_eq_true_iff, decide_eq_true_iff]; exact hc)]
            have hb := (ih (wo s l) hwl z (by omega) (by omega) z1).resolve_left hc.2
            have hkg := kgp_b (m := q) (KE := ke) (fun k hk => (hd k hk).2.2.2) z1 hl
            rw [hpc]; omega
          · exact absurd rfl e
    · rw [if_neg c]; exact Or.inl rfl
def Wbc (bc c _x : Nat) : Prop := c = bc
theorem PQ_fr {M' : Mm} (h : PQ q bc num mi li ke M) (f : Fr (Wbc bc) M M') : PQ q bc num mi li ke M' := by
  obtain ⟨hsh, h7, h8, hbc, hlen, hr⟩ := h
  refine ⟨Sh_fr hsh f (fun c k e => by unfold Wbc at e; unfold isP; omega), (f.1 72 7 (by unfold Wbc; omega)).trans h7, (f.1 72 8 (by unfold Wbc; omega)).trans h8, hbc, by rw [f.2.1]; exact hlen, fun c hc => ?_⟩
  rw [f.1 74 c (by unfold Wbc; omega), f.1 75 c (by unfold Wbc; omega), f.1 76 c (by unfold Wbc; omega), f.1 77 c (by unfold Wbc; omega)]
  exact hr c hc
theorem b_fillSet (h : PQ q bc num mi li ke M) (ho : QO q num mi li ke) {s : Nat} (h1 : 1 ≤ s) (hs : s < 2 ^ q) (hO : BtO q num mi li ke MO WH (rdB q bc M) s) {fit : Int} (hfit : fit = if mS mi q s ≤ WH then 1 else 0) : wp (f_Planner_fillSet M 73 (s : Int) fit MO) (fun t => Fr (Wbc bc) M t.2 ∧ BtO q num mi li ke MO WH (rdB q bc t.2) (s + 1) ∧ t.1 = cmM (fun l => rdB q bc t.2 s l) q ∧ ∀ s' l', s' < s → l' < q → rdB q bc t.2 s' l' = rdB q bc M s' l') := by
  have hqo := ho
  obtain ⟨hq, hd⟩ := ho
  have hqm := pow_m hq
  have hB := bt_bound hqo (show s ≤ 2 ^ q by omega) hO
  unfold f_Planner_fillSet
  refine wK (wp_loop (fun j x => x.2.1 = (j : Int) ∧ Fr (Wbc bc) M x.2.2 ∧ (∀ s' l', s' < s → l' < q → rdB q bc x.2.2 s' l' = rdB q bc M s' l') ∧ (∀ l', l' < j → rdB q bc x.2.2 s l' = BV q num mi li ke MO WH (rdB q bc M) s l') ∧ x.1 = cmM (fun l => BV q num mi li ke MO WH (rdB q bc M) s l) j) q (Q := fun t => Fr (Wbc bc) M t.2 ∧ BtO q num mi li ke MO WH (rdB q bc t.2) (s + 1) ∧ t.1 = cmM (fun l => rdB q bc t.2 s l) q ∧ ∀ s' l', s' < s → l' < q → rdB q bc t.2 s' l' = rdB q bc M s' l') (by omega) ⟨rfl, Fr_rf, fun _ _ _ _ => rfl, fun l' hl' => absurd hl' (Nat.not_lt_zero _), rfl⟩ ?_) (fun t ht => wS ht)
  rintro j ⟨le, x, M1⟩ hj ⟨e, hf, hlo, hdn, hle⟩
  simp only at e hf hlo hdn hle
  subst e hle
  have P1 := PQ_fr h hf
  have ej : w32 ((j : Int) + 1) = ((j + 1 : Nat) : Int) := by rw [w32_s (by omega) (by omega)]; omega
  unfold l_Planner_fillSet_8
  simp only []
  rw [show mg M1 (cI 73) 7 = (q : Int) from P1.2.1]
  refine wC (fun c => wSr ?_) (fun c => ?_)
  · have : j = q := by omega
    subst this
    refine ⟨hf, fun s' l' a1 a2 a3 => ?_, ?_, hlo⟩
    · by_cases es : s' = s
      · subst es
        rw [hdn l' a3]
        exact BV_cg (fun z hz htb => (hlo _ z (wo_lt htb) hz).symm)
      · rw [hlo s' l' (by omega) a3, hO s' l' a1 (by omega) a3]
        exact BV_cg (fun z hz htb => (hlo _ z (by have := wo_lt htb; omega) hz).symm)
    · have e : ∀ n, n ≤ j → cmM (fun l => BV j num mi li ke MO WH (rdB j bc M) s l) n = cmM (fun l => rdB j bc M1 s l) n := by
        intro n
        induction n with
        | zero => intro _; rfl
        | succ n ih =>
          intro hn
          show imin (cmM _ n) (BV j num mi li ke MO WH (rdB j bc M) s n) = imin (cmM _ n) (rdB j bc M1 s n)
          rw [ih (by omega), hdn n (by omega)]
      exact e j (Nat.le_refl _)
  have hj' : j < q := by omega
  have hmul := q_mul hq hs hj'
  have w2 : w32 ((s : Int) * (q : Int)) = ((s * q : Nat) : Int) := by rw [← Int.natCast_mul, w32_s (by omega) (by omega)]
  have w3 : w32 (((s * q : Nat) : Int) + (j : Int)) = ((s * q + j : Nat) : Int) := by rw [← Int.natCast_add, w32_s (by omega) (by omega)]
  have put : ∀ y, y = BV q num mi li ke MO WH (rdB q bc M) s j → wp (j_Planner_fillSet_56_8 M1 73 (s : Int) fit MO (cmM (fun l => BV q num mi li ke MO WH (rdB q bc M) s l) j) (j : Int) y) (Sum.elim (fun x' => j < q ∧ x'.2.1 = ((j + 1 : Nat) : Int) ∧ Fr (Wbc bc) M x'.2.2 ∧ (∀ s' l', s' < s → l' < q → rdB q bc x'.2.2 s' l' = rdB q bc M s' l') ∧ (∀ l', l' < j + 1 → rdB q bc x'.2.2 s l' = BV q num mi li ke MO WH (rdB q bc M) s l') ∧ x'.1 = cmM (fun l => BV q num mi li ke MO WH (rdB q bc M) s l) (j + 1)) (fun t => Fr (Wbc bc) M t.2 ∧ BtO q num mi li ke MO WH (rdB q bc t.2) (s + 1) ∧ t.1 = cmM (fun l => rdB q bc t.2 s l) q ∧ ∀ s' l', s' < s → l' < q → rdB q bc t.2 s' l' = rdB q bc M s' l')) := by
    rintro y rfl
    unfold j_Planner_fillSet_56_8
    rw [show mg M1 (cI 73) 8 = (bc : Int) + 1 from P1.2.2.1, cI_s, show mg M1 (cI 73) 7 = (q : Int) from P1.2.1, w2, w3, Int.toNat_natCast]
    have hl5 := P1.2.2.2.2.1
    refine wI (by omega) (wI (by omega) (wL (wL (wL (wSl ⟨hj', ej, Fr_wr hf rfl, fun s' l' a1 a2 => ?_, fun l' a1 => ?_, rfl⟩)))))
    · have := q_lt a1 a2
      unfold rdB
      rw [mg_mp, if_neg (by omega)]
      exact hlo s' l' a1 a2
    · unfold rdB
      rw [mg_mp]
      by_cases e : l' = j
      · subst e; rw [if_pos ⟨rfl, rfl⟩]
      · rw [if_neg (by omega)]; exact hdn l' (by omega)
  have hB1 : BtB q (rdB q bc M1) s := fun s' l' a1 a2 a3 => by rw [hlo s' l' a2 a3]; exact hB s' l' a1 a2 a3
  have far : (¬ (mS mi q s ≤ WH ∧ s.testBit j = true)) → (9223372036854775807 : Int) = BV q num mi li ke MO WH (rdB q bc M) s j := fun hc => by
    unfold BV; rw [if_neg hc]; rfl
  refine wC (fun c1 => ?_) (fun c1 => ?_)
  · unfold j_Planner_fillSet_34_8 j_Planner_fillSet_35_8
    refine wI rfl (put _ (far (fun hc => ?_)))
    rw [hfit, if_pos hc.1] at c1; omega
  · have hfits : mS mi q s ≤ WH := by
      rcases Int.lt_or_le WH (mS mi q s) with h9 | h9
      · rw [hfit, if_neg (by omega)] at c1; exact absurd rfl c1
      · exact h9
    rw [bit_n (show s < 2147483648 by omega) (show j < 32 by omega)]
    cases eb : s.testBit j with
    | false =>
      unfold j_Planner_fillSet_34_8 j_Planner_fillSet_35_8
      exact wI (by rfl) (wI rfl (put _ (far (fun hc => by rw [eb] at hc; exact absurd hc.2 (by decide)))))
    | true =>
      unfold j_Planner_fillSet_35_8
      refine wE (by decide) (wE (by decide) (wX (b_bestEnding P1 hqo hs hj' eb hB1) (put _ ?_)))
      have : BV q num mi li ke MO WH (rdB q bc M) s j = BV q num mi li ke MO WH (rdB q bc M1) s j := BV_cg (fun z hz htb => (hlo _ z (wo_lt htb) hz).symm)
      rw [this]
      unfold BV
      rw [if_pos (show mS mi q s ≤ WH ∧ s.testBit j = true from ⟨hfits, eb⟩)]
/-! what it says of rows -/
/-- a row's worth: its strain, then its pieces -/
def vC (num : Nat → Nat) (ke : Nat → Int) (r : Nat → Nat) (len : Nat) : Int := sumN (stI ke r) len * 10000000000 + sumN (fun i => (num (r i) : Int) * dq i) len
theorem vC_snoc (r : Nat → Nat) (len : Nat) : vC num ke r (len + 1) = vC num ke r len + stI ke r len * 10000000000 + (num (r len) : Int) * dq len := by
  unfold vC
  show (sumN (stI ke r) len + stI ke r len) * 10000000000 + (sumN (fun i => (num (r i) : Int) * dq i) len + (num (r len) : Int) * dq len) = _
  omega
theorem bt_row (ho : QO q num mi li ke) (hO : BtO q num mi li ke MO WH Bt (2 ^ q)) {r : Nat → Nat} : ∀ len, VR q (fun _ => true) li MO (len + 1) r → mS mi q (rS r (len + 1)) ≤ WH → Bt (rS r (len + 1)) (r len) ≤ vC num ke r (len + 1) ∧ Bt (rS r (len + 1)) (r len) ≠ FAR
  | len, hv, hw => by
    obtain ⟨hq, hd⟩ := ho
    have hqm := pow_m hq
    have hlen := VR_len hv
    have hr : ∀ j, j < len + 1 → r j < q := fun j hj => (hv.1 j hj).1
    have hsl : rS r (len + 1) < 2 ^ q := rS_lt _ hr
    have htb : (rS r (len + 1)).testBit (r len) = true := (rS_tb r _ _).mpr ⟨len, by omega, rfl⟩
    have hno : (rS r len).testBit (r len) = false := by
      cases e : (rS r len).testBit (r len) with
      | false => rfl
      | true =>
        obtain ⟨j, j1, j2⟩ := (rS_tb r _ _).mp e
        have := hv.2.1 j len (by omega) (by omega) j2
        omega
    have hwo : wo (rS r (len + 1)) (r len) = rS r len := or_wo hno
    have hpc : pcn (rS r len) = len := rS_pcn len (fun i hi => by have := hr i (by omega); omega) (fun i j hi hj => hv.2.1 i j (by omega) (by omega))
    have hs1 : 1 ≤ rS r (len + 1) := by
      rcases Nat.eq_zero_or_pos (rS r (len + 1)) with h | h
      · rw [h, Nat.zero_testBit] at htb; cases htb
      · exact h
    have hbd := bt_bound ⟨hq, hd⟩ (Nat.le_refl _) hO (rS r (len + 1)) (r len) hs1 hsl (hr len (by omega))
    have hvb : vC num ke r (len + 1) < FAR := by
      have h1 := sum_bd (f := stI ke r) (a := 0) (b := 6) (len + 1) (fun i hi => by
        cases i with
        | zero => exact ⟨Int.le_refl 0, (by decide : (0 : Int) ≤ 6)⟩
        | succ i => exact kgp_b (m := q) (fun k hk => (hd k hk).2.2.2) (hr i (by omega)) (hr (i + 1) hi))
      have h2 := sum_bd (f := fun i => (num (r i) : Int) * dq i) (a := 0) (b := 9000000000) (len + 1) (fun i hi => by
        have hdp := dq_p i (by omega)
        have hn := (hd (r i) (hr i hi)).1
        have h3 : (num (r i) : Int) * dq i ≤ 9 * dq i := Int.mul_le_mul_of_nonneg_right (by omega) (by omega)
        have h4 : 0 ≤ (num (r i) : Int) * dq i := Int.mul_nonneg (by omega) (by omega)
        omega)
      unfold vC FAR; omega
    have key : Bt (rS r (len + 1)) (r len) ≤ vC num ke r (len + 1) := by
      rw [hO _ (r len) hs1 hsl (hr len (by omega))]
      unfold BV
      rw [if_pos ⟨hw, htb⟩, hwo, hpc]
      cases len with
      | zero =>
        rw [if_pos (show rS r 0 = 0 from rfl), vC_snoc]
        show _ ≤ (0 : Int) * 10000000000 + 0 + (0 : Int) * 10000000000 + _
        omega
      | succ len =>
        have hv' := VR_pre hv (show len + 1 ≤ len + 1 + 1 by omega)
        have hadd : mS mi q (rS r (len + 1 + 1)) = mS mi q (rS r (len + 1)) + mi (r (len + 1)) := mS_add q (hr (len + 1) (by omega)) hno
        have hmi := (hd (r (len + 1)) (hr (len + 1) (by omega))).2.1
        obtain ⟨i1, i2⟩ := bt_row ⟨hq, hd⟩ hO len hv' (by omega)
        have hne : rS r (len + 1) ≠ 0 := fun e => by
          have := (rS_tb r (r len) (len + 1)).mpr ⟨len, by omega, rfl⟩
          rw [e, Nat.zero_testBit] at this; cases this
        rw [if_neg hne]
        have h3 := (cmM_le (cmF num li ke MO Bt (rS r (len + 1)) (r (len + 1))) q).2 (r len) (hr len (by omega))
        have e4 : cmF num li ke MO Bt (rS r (len + 1)) (r (len + 1)) (r len) = Bt (rS r (len + 1)) (r len) + kgp ke (r len) (r (len + 1)) * 10000000000 + (num (r (len + 1)) : Int) * dq (len + 1) := by
          unfold cmF
          rw [(rS_tb r (r len) (len + 1)).mpr ⟨len, by omega, rfl⟩, decide_eq_true (hv.2.2 len (by omega)), decide_eq_true i2, hpc]; rfl
        rw [e4] at h3
        rw [vC_snoc]
        have e5 : stI ke r (len + 1) = kgp ke (r len) (r (len + 1)) := rfl
        omega
    exact ⟨key, fun e => by rw [e] at key; omega⟩
theorem bt_ex (ho : QO q num mi li ke) (hO : BtO q num mi li ke MO WH Bt (2 ^ q)) : ∀ s l, 1 ≤ s → s < 2 ^ q → l < q → Bt s l ≠ FAR → ∃ (r : Nat → Nat) (len : Nat), VR q (fun _ => true) li MO (len + 1) r ∧ rS r (len + 1) = s ∧ r len = l ∧ vC num ke r (len + 1) = Bt s l ∧ mS mi q s ≤ WH := by
  obtain ⟨hq, hd⟩ := ho
  have hqm := pow_m hq
  intro s
  induction s using Nat.strongRecOn with
  | _ s ih =>
    intro l h1 h2 hl hne
    have e := hO s l h1 h2 hl
    rw [e] at hne ⊢
    unfold BV at hne ⊢
    by_cases c : mS mi q s ≤ WH ∧ s.testBit l = true
    · rw [if_pos c] at hne ⊢
      have hwl := wo_lt c.2
      have hwo := wo_or c.2
      by_cases c0 : wo s l = 0
      · rw [if_pos c0] at hne ⊢
        refine ⟨fun _ => l, 0, ⟨fun i _ => ⟨hl, rfl⟩, fun i j hi hj _ => by omega, fun i hi => by omega⟩, ?_, rfl, ?_, c.1⟩
        · show 0 ||| 2 ^ l = s
          rw [← hwo, c0]
        · rw [vC_snoc, c0, show pcn 0 = 0 by decide]
          show (0 : Int) * 10000000000 + 0 + (0 : Int) * 10000000000 + _ = _
          omega
      · rw [if_neg c0] at hne ⊢
        obtain ⟨z, z1, z2⟩ := cmM_at _ q hne
        rw [← z2] at hne ⊢
        unfold cmF at hne ⊢
        split at hne
        · rename_i hc
          rw [if_pos hc]
          rw [Bool.and_eq_true, Bool.and_eq_true, decide_eq_true_iff, decide_eq_true_iff] at hc
          obtain ⟨r, len, v1, v2, v3, v4, _⟩ := ih (wo s l) hwl z (by omega) (by omega) z1 hc.2
          have hno : (rS r (len + 1)).testBit l = false := by rw [v2, wo_tb]; simp
          have hpc : pcn (wo s l) = len + 1 := by
            rw [← v2]
            exact rS_pcn (len + 1) (fun i hi => by have := (v1.1 i hi).1; omega) v1.2.1
          refine ⟨up r (len + 1) l, len + 1, VR_snoc v1 hl rfl hno (fun j hj => by rw [show j = len by omega, v3]; exact hc.1.2), by rw [rS_snoc, v2, hwo], up_s _ _ _, ?_, c.1⟩
          rw [vC_snoc]
          have e1 : vC num ke (up r (len + 1) l) (len + 1) = vC num ke r (len + 1) := by
            unfold vC
            rw [sum_cg (f := stI ke (up r (len + 1) l)) (g := stI ke r) (len + 1) (fun i hi => by
              cases i with
              | zero => rfl
              | succ i => show kgp ke (up r (len + 1) l i) (up r (len + 1) l (i + 1)) = kgp ke (r i) (r (i + 1)); rw [up_n (show i ≠ len + 1 by omega), up_n (show i + 1 ≠ len + 1 by omega)]), sum_cg (f := fun i => (num (up r (len + 1) l i) : Int) * dq i) (g := fun i => (num (r i) : Int) * dq i) (len + 1) (fun i hi => by rw [up_n (show i ≠ len + 1 by omega)])]
          have e2 : stI ke (up r (len + 1) l) (len + 1) = kgp ke z l := by
            show kgp ke (up r (len + 1) l len) (up r (len + 1) l (len + 1)) = _
            rw [up_n (show len ≠ len + 1 by omega), up_s, v3]
          rw [e1, e2, up_s, v4, hpc]
        · exact absurd rfl hne
    · rw [if_neg c] at hne; exact absurd rfl hne
end PLB
