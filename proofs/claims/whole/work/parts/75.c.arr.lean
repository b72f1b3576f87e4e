/-! the class's best row -/
/-- what is known of the best among the sets below S -/
def ArI (q : Nat) (mi : Nat → Int) (Bt : Nat → Nat → Int) (S : Nat) (lng : Int) (ls : Nat) (le : Int) : Prop := (ls = 0 ∧ lng = 0 ∧ le = 0 ∧ ∀ s l, 1 ≤ s → s < S → l < q → Bt s l = FAR) ∨ (1 ≤ ls ∧ ls < S ∧ lng = mS mi q ls ∧ (∃ l, l < q ∧ Bt ls l = le) ∧ le ≠ FAR ∧ ∀ s l, 1 ≤ s → s < S → l < q → Bt s l ≠ FAR → mS mi q s < lng ∨ (mS mi q s = lng ∧ le ≤ Bt s l))
section PLC2
variable {q bc : Nat} {num : Nat → Nat} {mi li ke : Nat → Int} {M : Mm} {MO WH : Int}
theorem mS_pos (ho : QO q num mi li ke) {s : Nat} (h1 : 1 ≤ s) (hs : s < 2 ^ q) : 1 ≤ mS mi q s := by
  obtain ⟨hq, hd⟩ := ho
  have hex : ∃ k, k < q ∧ s.testBit k = true := by
    rcases Classical.em (∃ k, k < q ∧ s.testBit k = true) with h | h
    · exact h
    · exfalso
      have : s = 0 := Nat.eq_of_testBit_eq (fun i => by
        rw [Nat.zero_testBit]
        cases e : s.testBit i with
        | false => rfl
        | true =>
          rcases Nat.lt_or_ge i q with h9 | h9
          · exact absurd ⟨i, h9, e⟩ h
          · rw [Nat.testBit_lt_two_pow (Nat.lt_of_lt_of_le hs (Nat.pow_le_pow_right (by decide) h9))] at e; cases e)
      omega
  obtain ⟨k, hk, hb⟩ := hex
  have h2 := mS_add (mi := mi) (s := wo s k) q hk (by rw [wo_tb]; simp)
  rw [wo_or hb] at h2
  have h3 := mS_b (mi := mi) (N := q) (fun k hk => by have := (hd k hk).2.1; omega) (wo s k)
  have h4 := (hd k hk).2.1
  omega
theorem b_arrange45 (h : PQ q bc num mi li ke M) (ho : QO q num mi li ke) : wp (loopN (l_Planner_arrange_45 73 WH MO ((2 ^ q : Nat) : Int)) FU (0, 0, 0, 1, M)) (fun t => ∃ ls : Nat, t.2.1 = (ls : Int) ∧ Fr (Wbc bc) M t.2.2.2 ∧ BtO q num mi li ke MO WH (rdB q bc t.2.2.2) (2 ^ q) ∧ ArI q mi (rdB q bc t.2.2.2) (2 ^ q) t.1 ls t.2.2.1) := by
  have hqo := ho
  obtain ⟨hq, hd⟩ := ho
  have hqm := pow_m hq
  have hp1 := pow_1 q
  refine wp_loop (fun j x => ∃ ls : Nat, x.2.1 = (ls : Int) ∧ x.2.2.2.1 = ((j + 1 : Nat) : Int) ∧ Fr (Wbc bc) M x.2.2.2.2 ∧ BtO q num mi li ke MO WH (rdB q bc x.2.2.2.2) (j + 1) ∧ ArI q mi (rdB q bc x.2.2.2.2) (j + 1) x.1 ls x.2.2.1) (2 ^ q - 1) (by omega) ⟨0, rfl, rfl, Fr_rf, fun s l a1 a2 => by omega, Or.inl ⟨rfl, rfl, rfl, fun s l a1 a2 => by omega⟩⟩ ?_
  rintro j ⟨lg, lss, le, st, M1⟩ hj ⟨ls, e1, e2, hf, hO, hA⟩
  simp only at e1 e2 hf hO hA
  subst e1 e2
  have P1 := PQ_fr h hf
  have ej : w32 (((j + 1 : Nat) : Int) + 1) = ((j + 1 + 1 : Nat) : Int) := by rw [w32_s (by omega) (by omega)]; omega
  unfold l_Planner_arrange_45
  simp only []
  refine wC (fun c => wSr ⟨ls, rfl, hf, ?_⟩) (fun c => ?_)
  · rw [show 2 ^ q = j + 1 by omega]; exact ⟨hO, hA⟩
  have hs : j + 1 < 2 ^ q := by omega
  have hj8 : j + 1 + 1 ≤ 2 ^ q := by omega
  have hj9 : j < 2 ^ q - 1 := by omega
  have tail : ∀ y : Int, y = (if mS mi q (j + 1) ≤ WH then 1 else 0) → wp (j_Planner_arrange_73_45 M1 73 WH MO ((2 ^ q : Nat) : Int) lg (ls : Int) le ((j + 1 : Nat) : Int) (mS mi q (j + 1)) y ((j + 1 : Nat) : Int) 73) (Sum.elim (fun x' => j < 2 ^ q - 1 ∧ ∃ ls : Nat, x'.2.1 = (ls : Int) ∧ x'.2.2.2.1 = ((j + 1 + 1 : Nat) : Int) ∧ Fr (Wbc bc) M x'.2.2.2.2 ∧ BtO q num mi li ke MO WH (rdB q bc x'.2.2.2.2) (j + 1 + 1) ∧ ArI q mi (rdB q bc x'.2.2.2.2) (j + 1 + 1) x'.1 ls x'.2.2.1) (fun t => ∃ ls : Nat, t.2.1 = (ls : Int) ∧ Fr (Wbc bc) M t.2.2.2 ∧ BtO q num mi li ke MO WH (rdB q bc t.2.2.2) (2 ^ q) ∧ ArI q mi (rdB q bc t.2.2.2) (2 ^ q) t.1 ls t.2.2.1)) := by
    intro y hy
    unfold j_Planner_arrange_73_45
    refine wK (b_fillSet P1 hqo (show 1 ≤ j + 1 by omega) hs hO hy) (fun t ht => ?_)
    obtain ⟨f2, O2, tv, keep⟩ := ht
    have hf2 : Fr (Wbc bc) M t.2 := Fr_tr hf f2
    have hle := (cmM_le (fun l => rdB q bc t.2 (j + 1) l) q).2
    have hat := cmM_at (fun l => rdB q bc t.2 (j + 1) l) q
    rw [← tv] at hle hat
    -- the sets before, as they were
    have hold : ∀ (Q : Nat → Nat → Prop), (∀ s l, 1 ≤ s → s < j + 1 → l < q → Q s l) → (∀ l, l < q → Q (j + 1) l) → ∀ s l, 1 ≤ s → s < j + 1 + 1 → l < q → Q s l := fun Q q1 q2 s l a1 a2 a3 => by
      by_cases e : s = j + 1
      · rw [e]; exact q2 l a3
      · exact q1 s l a1 (by omega) a3
    have stay : (t.1 = FAR ∨ (t.1 ≠ FAR ∧ (mS mi q (j + 1) < lg ∨ (mS mi q (j + 1) = lg ∧ le ≤ t.1)) ∧ lg ≠ 0)) → ArI q mi (rdB q bc t.2) (j + 1 + 1) lg ls le := fun hc => by
      rcases hA with ⟨a1, a2, a3, a4⟩ | ⟨a1, a2, a3, ⟨l0, a4, a5⟩, a6, a7⟩
      · rcases hc with hc | hc
        · refine Or.inl ⟨a1, a2, a3, hold _ (fun s l b1 b2 b3 => by rw [keep s l b2 b3]; exact a4 s l b1 b2 b3) (fun l b3 => ?_)⟩
          have hl9 := hle l b3
          have h5 := bt_bound hqo hj8 O2 (j + 1) l (by omega) (by omega) b3
          rcases h5 with h5 | h5
          · exact h5
          · have h14 := pcn_14 (j + 1)
            clear hat hle
            rw [hc] at hl9; unfold FAR at *; omega
        · exact absurd a2 hc.2.2
      · refine Or.inr ⟨a1, by omega, a3, ⟨l0, a4, by rw [keep ls l0 a2 a4]; exact a5⟩, a6, hold _ (fun s l b1 b2 b3 hne => by rw [keep s l b2 b3] at hne ⊢; exact a7 s l b1 b2 b3 hne) (fun l b3 hne => ?_)⟩
        have hl9 := hle l b3
        rcases hc with hc | hc
        · have h5 := bt_bound hqo hj8 O2 (j + 1) l (by omega) (by omega) b3
          rcases h5 with h5 | h5
          · exact absurd h5 hne
          · have h14 := pcn_14 (j + 1)
            clear hat hle
            rw [hc] at hl9; unfold FAR at *; omega
        · rcases hc.2.1 with h6 | h6
          · exact Or.inl h6
          · have hl9 : t.1 ≤ rdB q bc t.2 (j + 1) l := hl9
            exact Or.inr ⟨h6.1, by omega⟩
    have take : t.1 ≠ FAR → (lg < mS mi q (j + 1) ∨ (mS mi q (j + 1) = lg ∧ t.1 < le)) → ArI q mi (rdB q bc t.2) (j + 1 + 1) (mS mi q (j + 1)) (j + 1) t.1 := fun hne hc => by
      obtain ⟨l0, l1, l2⟩ := hat hne
      refine Or.inr ⟨by omega, by omega, rfl, ⟨l0, l1, l2⟩, hne, hold _ (fun s l b1 b2 b3 hn => ?_) (fun l b3 hn => Or.inr ⟨rfl, hle l b3⟩)⟩
      rw [keep s l b2 b3] at hn ⊢
      rcases hA with ⟨a1, a2, a3, a4⟩ | ⟨a1, a2, a3, ⟨l0, a4, a5⟩, a6, a7⟩
      · exact absurd (a4 s l b1 b2 b3) hn
      · rcases a7 s l b1 b2 b3 hn with h6 | h6
        · exact Or.inl (by omega)
        · rcases hc with hc | hc
          · exact Or.inl (by omega)
          · exact Or.inr ⟨by omega, by omega⟩
    have hpos := mS_pos hqo (show 1 ≤ j + 1 by omega) hs
    clear hat hle
    refine wC (fun c1 => wL (wSl ⟨hj9, ls, rfl, ej, hf2, O2, stay (Or.inl c1)⟩)) (fun c1 => wC (fun c2 => ?_) (fun c2 => wC (fun c3 => wL (wSl ⟨hj9, ls, rfl, ej, hf2, O2, stay (Or.inr ⟨c1, Or.inl (by omega), by omega⟩)⟩)) (fun c3 => wC (fun c4 => wL (wSl ⟨hj9, ls, rfl, ej, hf2, O2, stay (Or.inr ⟨c1, Or.inr ⟨by omega, c4⟩, by omega⟩)⟩)) (fun c4 => ?_))))
    · unfold j_Planner_arrange_110_45
      exact wL (wSl ⟨hj9, j + 1, rfl, ej, hf2, O2, take c1 (Or.inl c2)⟩)
    · unfold j_Planner_arrange_110_45
      exact wL (wSl ⟨hj9, j + 1, rfl, ej, hf2, O2, take c1 (Or.inr ⟨by omega, by omega⟩)⟩)
  refine wX (b_minutesOf P1 hqo (show j + 1 < 1024 by omega)) (wC (fun c1 => tail 0 ?_) (fun c1 => tail 1 ?_))
  · rw [if_neg (by omega)]
  · rw [if_pos (by omega)]
/-! the row kept -/
def WKr (c x : Nat) : Prop := (c = 72 ∧ (x = 1 ∨ x = 2)) ∨ c = 73
theorem b_keepRow (hs : Sh M) {len : Nat} (hl : len ≤ 10) {st : Int} (hst : 0 ≤ st ∧ st ≤ 100) {a : Nat → Nat} (ha : ∀ j, a j < 10) {v : Int} (hv : v = st * 10000000000 + dqS a len) : wp (f_Planner_keepRow M 73 (len : Int) v) (fun M' => Fr WKr M M' ∧ mg M' 72 1 = (len : Int) ∧ mg M' 72 2 = st ∧ ∀ i, i < len → mg M' 73 i = (a i : Int)) := by
  have hb := dqS_b ha hl
  have hd : lDiv v 10000000000 = st := by
    rw [lDiv_n (by omega) (by omega) (by omega) (by omega), hv]
    exact dq_top ha st hl
  unfold f_Planner_keepRow
  refine wL (wL ?_)
  rw [hd, w32_s (by omega) (by omega), show cI 73 = 72 from rfl]
  have f1 : Fr WKr M (mp (mp M 72 1 (len : Int)) 72 2 st) := Fr_wr (Fr_mp (Or.inl ⟨rfl, Or.inl rfl⟩)) (Or.inl ⟨rfl, Or.inr rfl⟩)
  have e1 : mg (mp (mp M 72 1 (len : Int)) 72 2 st) 72 1 = (len : Int) := by rw [mg_mp_n (by omega), mg_mp_s]
  have e2 : mg (mp (mp M 72 1 (len : Int)) 72 2 st) 72 2 = st := mg_mp_s _ _ _ _
  generalize hM1 : mp (mp M 72 1 (len : Int)) 72 2 st = M1 at *
  refine wB (wM (wp_loop (fun j x => x.1 = (j : Int) ∧ Fr WKr M x.2 ∧ mg x.2 72 1 = (len : Int) ∧ mg x.2 72 2 = st ∧ ∀ i, i < j → mg x.2 73 i = (a i : Int)) len (by omega) ⟨rfl, f1, e1, e2, fun i hi => absurd hi (Nat.not_lt_zero _)⟩ ?_) (fun t ht => wS ht))
  rintro j ⟨x, M2⟩ hj ⟨e, hf, h1, h2, h3⟩
  simp only at e hf h1 h2 h3
  subst e
  have s2 : Sh M2 := Sh_fr hs hf (fun c k e => by unfold WKr at e; unfold isP; omega)
  unfold l_Planner_keepRow_18
  simp only []
  refine wC (fun c => wSr ⟨hf, h1, h2, fun i hi => h3 i (by omega)⟩) (fun c => ?_)
  have hj' : j < len := by omega
  have hdp := dq_p j (by omega)
  have haj := ha j
  have hx : w32 (lRem (lDiv v (dq j)) 10) = (a j : Int) := by
    have hq0 : 0 ≤ v / dq j := Int.ediv_nonneg (by omega) (by omega)
    have hq1 : v / dq j ≤ v := Int.ediv_le_self _ (by omega)
    have e9 : v / dq j % 10 = (a j : Int) := by rw [hv]; exact dq_dec ha st hl hj'
    rw [lDiv_n (by omega) (by omega) (by omega) (by omega), lRem_n hq0 (by omega) (by omega) (by omega), e9, w32_s (by omega) (by omega)]
  rw [Int.toNat_natCast, show dg2.getD j 0 = dq j from rfl, hx, show mg M2 (cI 73) 0 = 74 from p_72_0 s2, show cI 74 = 73 from rfl, n_73 s2]
  refine wE (by omega) (wI (by omega) (wI (by omega) (wI (by decide) (wI (by omega) (wL (wL (wSl ⟨hj', by rw [w32_s (by omega) (by omega)]; rfl, Fr_wr hf (Or.inr rfl), ?_, ?_, fun i hi => ?_⟩)))))))
  · rw [mg_mp_n (by omega)]; exact h1
  · rw [mg_mp_n (by omega)]; exact h2
  · rw [mg_mp]
    by_cases e : i = j
    · subst e; rw [if_pos ⟨rfl, rfl⟩]
    · rw [if_neg (by omega)]; exact h3 i (by omega)
/-- what arrange() leaves: a row of the choices that no other beats -/
def BsR (q : Nat) (num : Nat → Nat) (mi li ke : Nat → Int) (MO WH lng : Int) (len : Nat) (r : Nat → Nat) : Prop := VR q (fun _ => true) li MO len r ∧ mS mi q (rS r len) = lng ∧ lng ≤ WH ∧ ∀ r' l', VR q (fun _ => true) li MO l' r' → mS mi q (rS r' l') ≤ WH → mS mi q (rS r' l') < lng ∨ (mS mi q (rS r' l') = lng ∧ vC num ke r len ≤ vC num ke r' l')
theorem ar_row (ho : QO q num mi li ke) (hWH : 0 ≤ WH) {Bt : Nat → Nat → Int} (hO : BtO q num mi li ke MO WH Bt (2 ^ q)) {lng le : Int} {ls : Nat} (hA : ArI q mi Bt (2 ^ q) lng ls le) : ∃ (r : Nat → Nat) (len : Nat), BsR q num mi li ke MO WH lng len r ∧ pcn ls = len ∧ le = vC num ke r len ∧ ls < 2 ^ q := by
  have hqo := ho
  obtain ⟨hq, hd⟩ := ho
  have hqm := pow_m hq
  have none0 : ∀ (r' : Nat → Nat), mS mi q (rS r' 0) = 0 := fun r' => mS_0 mi q
  rcases hA with ⟨a1, a2, a3, a4⟩ | ⟨a1, a2, a3, ⟨l0, a4, a5⟩, a6, a7⟩
  · refine ⟨fun _ => 0, 0, ⟨⟨fun i hi => absurd hi (Nat.not_lt_zero _), fun i j hi => absurd hi (Nat.not_lt_zero _), fun i hi => absurd hi (Nat.not_lt_zero _)⟩, by rw [none0]; omega, by omega, fun r' l' hv hw => ?_⟩, by rw [a1]; decide, by rw [a3]; rfl, by rw [a1]; exact pow_1 q⟩
    cases l' with
    | zero => exact Or.inr ⟨by rw [none0]; omega, Int.le_refl 0⟩
    | succ l' =>
      have h1 := (bt_row hqo hO l' hv hw).2
      have hr : ∀ j, j < l' + 1 → r' j < q := fun j hj => (hv.1 j hj).1
      have hs1 : 1 ≤ rS r' (l' + 1) := by
        rcases Nat.eq_zero_or_pos (rS r' (l' + 1)) with h | h
        · have := (rS_tb r' (r' l') (l' + 1)).mpr ⟨l', by omega, rfl⟩
          rw [h, Nat.zero_testBit] at this; cases this
        · exact h
      exact absurd (a4 _ _ hs1 (rS_lt _ hr) (hr l' (by omega))) h1
  · obtain ⟨r, len, v1, v2, v3, v4, v5⟩ := bt_ex hqo hO ls l0 a1 a2 a4 (by rw [a5]; exact a6)
    have hpos := mS_pos hqo a1 a2
    refine ⟨r, len + 1, ⟨v1, by rw [v2, a3], by rw [a3]; exact v5, fun r' l' hv hw => ?_⟩, ?_, by rw [v4, a5], a2⟩
    · cases l' with
      | zero => exact Or.inl (by rw [none0]; omega)
      | succ l' =>
        obtain ⟨h0, h1⟩ := bt_row hqo hO l' hv hw
        have hr : ∀ j, j < l' + 1 → r' j < q := fun j hj => (hv.1 j hj).1
        have hs1 : 1 ≤ rS r' (l' + 1) := by
          rcases Nat.eq_zero_or_pos (rS r' (l' + 1)) with h | h
          · have := (rS_tb r' (r' l') (l' + 1)).mpr ⟨l', by omega, rfl⟩
            rw [h, Nat.zero_testBit] at this; cases this
          · exact h
        rcases a7 _ _ hs1 (rS_lt _ hr) (hr l' (by omega)) h1 with h6 | h6
        · exact Or.inl h6
        · exact Or.inr ⟨h6.1, by rw [v4, a5]; omega⟩
    · rw [← v2]
      exact rS_pcn (len + 1) (fun i hi => by have := (v1.1 i hi).1; omega) v1.2.1
end PLC2
