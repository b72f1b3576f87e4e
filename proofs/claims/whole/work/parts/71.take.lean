/-! the class's seatings -/
def cpl (n z : Nat) : Nat := if z ≤ n then z - 1 else 14
/-- how many chairs change, as a count and as a sum -/
theorem cnt_sum (c : Nat → Int) (a : Nat → Nat) : ∀ j, (cnt (fun i => decide (c i ≠ chN a i)) j : Int) = sumN (fun i => ctA c i (a i)) j
  | 0 => rfl
  | j + 1 => by
    have h := cnt_sum c a j
    show ((cnt (fun i => decide (c i ≠ chN a i)) j + (if decide (c j ≠ chN a j) = true then 1 else 0) : Nat) : Int) = sumN (fun i => ctA c i (a i)) j + ctA c j (a j)
    have e : ctA c j (a j) = if c j = chN a j then 0 else 1 := rfl
    rw [e, ← h]
    by_cases e2 : c j = chN a j
    · rw [if_pos e2, if_neg (by simp [e2])]; omega
    · rw [if_neg e2, if_pos (by simp [e2])]; omega
theorem cnt_cgI {f g : Nat → Bool} (n : Nat) (h : ∀ i, i < n → f i = g i) : (cnt f n : Int) = (cnt g n : Int) := congrArg (fun x : Nat => (x : Int)) (cnt_cg n h)
def WTk (k c x : Nat) : Prop := c = 11 + 4 * k ∧ x < 10
section TK
variable {n k C : Nat} {ag jo pa : Nat → Int} {co : Nat → Nat → Int} {he : Nat → Bool} {d : PcD} {c : Nat → Int} {M : Mm} {an : Bool} {W : Nat → Nat → Int} {u v sl : Nat → Int} {ro cf : Nat → Nat}
theorem b_take (hs : Sh M) (hk : k < 10) (hb : PB k d M) (hpt : pPt d ≤ 10) (hn : n ≤ 14) (hC : C = n + pPt d) (h : HM C W u v sl ro cf M) (hm : MatI C (pPt d) (pPt d) W u v ro) {col : Nat → Nat} (hcol : ∀ i, i < pPt d → 1 ≤ col i ∧ col i ≤ C ∧ ro (col i) = i + 1) (hc : ∀ i, i < pPt d → mg M (11 + 4 * k) i = c i) : wp (f_Seater_takeChairs M 66 (pr k) (n : Int)) (fun q => q.1 = sumN (fun i => ctA c i (cpl n (col i))) (pPt d) ∧ (∀ i, i < pPt d → mg q.2 (11 + 4 * k) i = chN (fun i => cpl n (col i)) i) ∧ Fr (WTk k) M q.2) := by
  have nw : ∀ i, i < pPt d → chN (fun i => cpl n (col i)) i = if n < col i then -1 else (col i : Int) - 1 := fun i hi => by
    have := hcol i hi
    unfold chN cpl
    simp only
    by_cases e : col i ≤ n
    · rw [if_pos e, if_neg (by omega), if_neg (by omega)]; omega
    · rw [if_neg e, if_pos rfl, if_pos (by omega)]
  generalize hN : chN (fun i => cpl n (col i)) = nc at *
  have hsum := cnt_sum c (fun i => cpl n (col i)) (pPt d)
  rw [hN] at hsum
  -- who has been seated by the first columns
  have hdn : ∀ j i, i < pPt d → (exB (fun z => decide (1 ≤ z ∧ ro z = i + 1)) (j + 1) = true ↔ col i ≤ j) := fun j i hi => by
    obtain ⟨d1, d2, d3⟩ := hcol i hi
    rw [exB_iff]
    constructor
    · rintro ⟨z, z1, z2⟩
      rw [decide_eq_true_iff] at z2
      rcases Nat.lt_or_ge C z with h9 | h9
      · omega
      · have := hm.2.1 z (col i) z2.1 h9 d1 d2 (by omega) (by omega)
        omega
    · intro hle
      exact ⟨col i, by omega, by rw [decide_eq_true_iff]; exact ⟨d1, d3⟩⟩
  unfold f_Seater_takeChairs
  refine wK (wp_loop (fun j s => s.1 = (cnt (fun i => decide (col i ≤ j) && decide (c i ≠ nc i)) (pPt d) : Int) ∧ s.2.1 = ((j + 1 : Nat) : Int) ∧ Fr (WTk k) M s.2.2 ∧ ∀ i, i < pPt d → mg s.2.2 (11 + 4 * k) i = if col i ≤ j then nc i else c i) C (Q := fun t => t.1 = (cnt (fun i => decide (c i ≠ nc i)) (pPt d) : Int) ∧ (∀ i, i < pPt d → mg t.2 (11 + 4 * k) i = nc i) ∧ Fr (WTk k) M t.2) (by omega) ⟨?_, rfl, Fr_rf, fun i hi => ?_⟩ ?_) (fun t ht => wS ⟨by rw [ht.1]; exact hsum, ht.2.1, ht.2.2⟩)
  · rw [cnt_z _ (fun i hi => by have := hcol i hi; simp; omega)]; rfl
  · have := hcol i hi
    rw [if_neg (by omega)]; exact hc i hi
  rintro j ⟨sc, si, M1⟩ hj ⟨e1, e2, hf, hch⟩
  simp only at e1 e2 hf hch
  subst e1 e2
  have s1 : Sh M1 := Sh_fr hs hf (fun c x e => by unfold WTk at e; unfold isP; omega)
  have b1 : PB k d M1 := PB_fr hb hf (fun c x e => by unfold WTk at e; omega)
  have hcl := cnt_le (fun i => decide (col i ≤ j) && decide (c i ≠ nc i)) (pPt d)
  have rom : ∀ z, z ≤ 24 → mg M1 70 z = (ro z : Int) := fun z hz => (hf.1 70 z (by unfold WTk; omega)).trans (h.2.2.2.2.2.1 z hz)
  unfold l_Seater_takeChairs_5
  simp only []
  rw [show mg M1 (cI 66) 6 = (C : Int) from (hf.1 65 6 (by unfold WTk; omega)).trans h.1]
  refine wC (fun hc1 => wSr ?_) (fun hc1 => ?_)
  · have : j = C := by omega
    subst this
    refine ⟨?_, fun i hi => ?_, hf⟩
    · refine cnt_cgI (pPt d) (fun i hi => ?_)
      have := hcol i hi
      rw [decide_eq_true this.2.1]; rfl
    · have := hcol i hi
      rw [hch i hi, if_pos this.2.1]
  have hj' : j < C := by omega
  have ej : w32 (((j + 1 : Nat) : Int) + 1) = ((j + 1 + 1 : Nat) : Int) := by rw [w32_s (by omega) (by omega)]; omega
  have hrt := hm.1 (j + 1) (by omega) (by omega)
  rw [show mg M1 (cI 66) 4 = 71 from p_65_4 s1, show cI 71 = 70 from rfl, n_70 s1, Int.toNat_natCast, rom (j + 1) (by omega), w32_s (by omega) (by omega)]
  refine wI (by decide) (wI (by omega) (wL (wX (q_hasPart b1 _) ?_)))
  by_cases hz : ro (j + 1) = 0
  · rw [if_neg (show ¬ (0 ≤ (ro (j + 1) : Int) - 1 ∧ (ro (j + 1) : Int) - 1 < (pPt d : Int)) by omega)]
    refine wE (by decide) (wL (wSl ⟨hj', ?_, ej, hf, fun i hi => ?_⟩))
    · refine cnt_cgI (pPt d) (fun i hi => ?_)
      have := hcol i hi
      have h9 : col i ≠ j + 1 := fun e => by rw [e] at this; omega
      have h8 : decide (col i ≤ j + 1) = decide (col i ≤ j) := decide_eq_decide.mpr (by omega)
      rw [h8]
    · have := hcol i hi
      have h9 : col i ≠ j + 1 := fun e => by rw [e] at this; omega
      rw [hch i hi]
      by_cases e : col i ≤ j
      · rw [if_pos e, if_pos (by omega)]
      · rw [if_neg e, if_neg (by omega)]
  · obtain ⟨i0, hi0⟩ : ∃ i0, ro (j + 1) = i0 + 1 := ⟨ro (j + 1) - 1, by omega⟩
    have hi0' : i0 < pPt d := by omega
    have hci : col i0 = j + 1 := by
      obtain ⟨d1, d2, d3⟩ := hcol i0 hi0'
      exact hm.2.1 (col i0) (j + 1) d1 d2 (by omega) (by omega) (by omega) (by omega)
    have hoth : ∀ i, i < pPt d → i ≠ i0 → col i ≠ j + 1 := fun i hi hne e => by
      have := hcol i hi
      rw [e] at this
      omega
    have hnc := nw i0 hi0'
    rw [hci] at hnc
    have hold : mg M1 (11 + 4 * k) i0 = c i0 := by rw [hch i0 hi0', if_neg (by omega)]
    rw [if_pos (show 0 ≤ (ro (j + 1) : Int) - 1 ∧ (ro (j + 1) : Int) - 1 < (pPt d : Int) by omega), show ((ro (j + 1) : Int) - 1) = (i0 : Int) by omega]
    have tail : ∀ y, y = nc i0 → wp (j_Seater_takeChairs_51_5 M1 66 (pr k) (n : Int) (cnt (fun i => decide (col i ≤ j) && decide (c i ≠ nc i)) (pPt d) : Int) ((j + 1 : Nat) : Int) (i0 : Int) y) (Sum.elim (fun s' => j < C ∧ s'.1 = (cnt (fun i => decide (col i ≤ j + 1) && decide (c i ≠ nc i)) (pPt d) : Int) ∧ s'.2.1 = ((j + 1 + 1 : Nat) : Int) ∧ Fr (WTk k) M s'.2.2 ∧ ∀ i, i < pPt d → mg s'.2.2 (11 + 4 * k) i = if col i ≤ j + 1 then nc i else c i) (fun t => t.1 = (cnt (fun i => decide (c i ≠ nc i)) (pPt d) : Int) ∧ (∀ i, i < pPt d → mg t.2 (11 + 4 * k) i = nc i) ∧ Fr (WTk k) M t.2)) := by
      rintro y rfl
      unfold j_Seater_takeChairs_51_5
      rw [q_chair s1 hk, cI_s, n_pc2 s1 hk, Int.toNat_natCast, hold]
      refine wI (by omega) (wI (by omega) (wC (fun hc2 => ?_) (fun hc2 => ?_)))
      · refine wL (wSl ⟨hj', ?_, ej, hf, fun i hi => ?_⟩)
        · refine cnt_cgI (pPt d) (fun i hi => ?_)
          by_cases ei : i = i0
          · subst ei
            rw [decide_eq_false (show ¬ c i ≠ nc i by omega)]; simp
          · have h9 := hoth i hi ei
            have h8 : decide (col i ≤ j + 1) = decide (col i ≤ j) := decide_eq_decide.mpr (by omega)
            rw [h8]
        · rw [hch i hi]
          by_cases ei : i = i0
          · subst ei; rw [if_neg (by omega), if_pos (by omega)]; omega
          · have h9 := hoth i hi ei
            by_cases e : col i ≤ j
            · rw [if_pos e, if_pos (by omega)]
            · rw [if_neg e, if_neg (by omega)]
      · refine wL (wL (wL (wSl ⟨hj', ?_, ej, Fr_wr hf ⟨rfl, by omega⟩, fun i hi => ?_⟩)))
        · have hf0 : (decide (col i0 ≤ j) && decide (c i0 ≠ nc i0)) = false := by rw [decide_eq_false (show ¬ col i0 ≤ j by omega)]; rfl
          have := cnt_ad (g := fun i => decide (col i ≤ j) && decide (c i ≠ nc i)) hi0' hf0
          have e5 : cnt (fun i => decide (col i ≤ j + 1) && decide (c i ≠ nc i)) (pPt d) = cnt (fun i => decide (col i ≤ j) && decide (c i ≠ nc i)) (pPt d) + 1 := by
            rw [← this]
            refine cnt_cg (pPt d) (fun i hi => ?_)
            by_cases ei : i = i0
            · subst ei
              rw [decide_eq_true (show col i ≤ j + 1 by omega), decide_eq_true (show c i ≠ nc i from hc2)]; simp
            · have h9 := hoth i hi ei
              have h8 : decide (col i ≤ j + 1) = decide (col i ≤ j) := decide_eq_decide.mpr (by omega)
              rw [h8, decide_eq_false ei]; simp
          show w32 _ = (cnt (fun i => decide (col i ≤ j + 1) && decide (c i ≠ nc i)) (pPt d) : Int)
          rw [e5, w32_s (by omega) (by omega)]; omega
        · rw [mg_mp]
          by_cases ei : i = i0
          · subst ei; rw [if_pos ⟨rfl, rfl⟩, if_pos (by omega)]
          · have h9 := hoth i hi ei
            rw [if_neg (by omega), hch i hi]
            by_cases e : col i ≤ j
            · rw [if_pos e, if_pos (by omega)]
            · rw [if_neg e, if_neg (by omega)]
    refine wI (by decide) (wC (fun hc2 => tail _ ?_) (fun hc2 => tail _ ?_))
    · rw [hnc, if_pos (by omega)]
    · rw [hnc, if_neg (by omega), w32_s (by omega) (by omega)]
/-- what the columns say is a SEATING, and no SEATING is lighter -/
theorem col_best (hok : OKp n pa co he) (ho : OKd d) (hmt : MatchB co he d) (hC : C = n + pPt d) (hWf : ∀ i, i < pPt d → ∀ z, 1 ≤ z → z ≤ C → W (i + 1) z = WF an co he d c i (cpl n z)) (hm : MatI C (pPt d) (pPt d) W u v ro) {col : Nat → Nat} (hcol : ∀ i, i < pPt d → 1 ≤ col i ∧ col i ≤ C ∧ ro (col i) = i + 1) : Vd (pPt d) (mbP co he d) (fun i => cpl n (col i)) ∧ ∀ b, Vd (pPt d) (mbP co he d) b → sumN (fun i => kF an co d c i (cpl n (col i)) * 576650390625 + (cpl n (col i) : Int) * dgt i) (pPt d) ≤ sumN (fun i => kF an co d c i (b i) * 576650390625 + (b i : Int) * dgt i) (pPt d) := by
  have hn := hok.1
  have hco := hok.2.2.1
  have hpt := ho.2.2.2.2.1
  have c15 : ∀ z, cpl n z < 15 := fun z => by unfold cpl; split <;> omega
  -- any seating as columns
  have key : ∀ b, Vd (pPt d) (mbP co he d) b → sumN (fun i => WF an co he d c i (cpl n (col i))) (pPt d) ≤ sumN (fun i => WF an co he d c i (b i)) (pPt d) := by
    intro b hb
    have hbn : ∀ i, i < pPt d → b i < 14 → b i < n := fun i hi h14 => by
      have h5 := (hb i hi).2
      unfold okp at h5
      rw [Bool.and_eq_true] at h5
      exact mb_lt hok h14 h5.1
    have h1 := mat_opt hm hcol (b := fun i => if b i < 14 then b i + 1 else n + i + 1) (fun i hi => by
      split
      · rename_i h; have := hbn i hi h; omega
      · omega) (fun i j hi hj e => by
      have hne : ∀ i j, i < j → j < pPt d → b j < 14 → b i ≠ b j := fun i j hij hj h14 e => by
        have h5 := (hb j hj).2
        unfold okp at h5
        rw [Bool.and_eq_true, decide_eq_false (by omega), Bool.false_or] at h5
        have h6 : (sA b j).testBit (b j) = true := (sA_tb b (b j) j).mpr ⟨i, hij, e, h14⟩
        rw [h6] at h5
        exact absurd h5.2 (by decide)
      split at e
      · rename_i h1
        split at e
        · rename_i h2
          rcases Nat.lt_trichotomy i j with h | h | h
          · exact absurd (by omega) (hne i j h hj h2)
          · exact h
          · exact absurd (by omega) (hne j i h hi h1)
        · have := hbn i hi h1; omega
      · split at e
        · rename_i h2; have := hbn j hj h2; omega
        · omega)
    rw [sum_cg (g := fun i => WF an co he d c i (cpl n (col i))) (pPt d) (fun i hi => hWf i hi (col i) (hcol i hi).1 (hcol i hi).2.1)] at h1
    rw [sum_cg (f := fun i => W (i + 1) (if b i < 14 then b i + 1 else n + i + 1)) (g := fun i => WF an co he d c i (b i)) (pPt d) (fun i hi => by
      have h15 := (hb i hi).1
      by_cases h : b i < 14
      · have := hbn i hi h
        rw [if_pos h, hWf i hi _ (by omega) (by omega)]
        congr 1
        unfold cpl; rw [if_pos (by omega)]; omega
      · rw [if_neg h, hWf i hi _ (by omega) (by omega)]
        congr 1
        unfold cpl; rw [if_neg (by omega)]; omega)] at h1
    exact h1
  -- none is forbidden
  obtain ⟨b0, hb0⟩ := vd_match hok hmt
  have hmbv : ∀ b, Vd (pPt d) (mbP co he d) b → ∀ i, i < pPt d → mbP co he d i (b i) = true := fun b hb i hi => by
    have h5 := (hb i hi).2
    unfold okp at h5
    rw [Bool.and_eq_true] at h5
    exact h5.1
  have hb0s := sum_bd (f := fun i => WF an co he d c i (b0 i)) (a := 0) (b := 58241689453125) (pPt d) (fun i hi => by
    have := WF_b hco an he d c (show i < 10 by omega) (hb0 i hi).1
    exact ⟨this.1, this.2.2 (hmbv b0 hb0 i hi)⟩)
  have hk0 := key b0 hb0
  have hmb : ∀ i, i < pPt d → mbP co he d i (cpl n (col i)) = true := fun i hi => by
    cases e : mbP co he d i (cpl n (col i)) with
    | true => rfl
    | false =>
      have hF : WF an co he d c i (cpl n (col i)) = 5766503906250000 := by unfold WF; rw [e]; rfl
      have h7 := sum_rm (f := fun i => WF an co he d c i (cpl n (col i))) (pPt d) hi
      have h8 := sum_bd (f := fun z => if z = i then 0 else WF an co he d c z (cpl n (col z))) (a := 0) (b := 5766503906250000) (pPt d) (fun z hz => by
        have := WF_b hco an he d c (show z < 10 by omega) (c15 (col z))
        split <;> omega)
      have h7 : sumN (fun i => WF an co he d c i (cpl n (col i))) (pPt d) = sumN (fun z => if z = i then 0 else WF an co he d c z (cpl n (col z))) (pPt d) + WF an co he d c i (cpl n (col i)) := h7
      omega
  have hWk : ∀ b : Nat → Nat, (∀ i, i < pPt d → mbP co he d i (b i) = true) → sumN (fun i => WF an co he d c i (b i)) (pPt d) = sumN (fun i => kF an co d c i (b i) * 576650390625 + (b i : Int) * dgt i) (pPt d) := fun b hb => sum_cg (pPt d) (fun i hi => by unfold WF; rw [if_pos (hb i hi)])
  refine ⟨fun i hi => ⟨c15 _, ?_⟩, fun b hb => ?_⟩
  · unfold okp
    rw [hmb i hi]
    by_cases h14 : 14 ≤ cpl n (col i)
    · rw [decide_eq_true h14]; rfl
    · cases e : (sA (fun i => cpl n (col i)) i).testBit (cpl n (col i)) with
      | false => simp
      | true =>
        obtain ⟨j, j1, j2, j3⟩ := (sA_tb _ _ _).mp e
        have hi2 := hcol i hi
        have hj2 := hcol j (by omega)
        have : col j = col i := by
          unfold cpl at j2 h14
          split at j2
          · split at j2
            · omega
            · omega
          · split at j2
            · omega
            · rename_i h9 h8; rw [if_neg h8] at h14; omega
        rw [this] at hj2
        omega
  · have := key b hb
    rw [hWk (fun i => cpl n (col i)) hmb, hWk b (hmbv b hb)] at this
    exact this
end TK
