/-! the reference reads a PART -/
def FMi (k P : Nat) (D : PcD) (M : Mm) : Prop := mg M 89 k = (P : Int) ∧ mg M 90 k = (pMu D : Int) ∧ ∀ i, i < pPt D → mg M 91 (10 * k + i) = (pMy D i : Int) ∧ ∀ j, j < pMy D i → mg M 92 (40 * k + 4 * i + j) = (pWh D i j : Int)
def WMk (k c x : Nat) : Prop := (c = 79 ∧ 30 ≤ x ∧ x ≤ 36) ∨ ((c = 89 ∨ c = 90) ∧ x = k) ∨ (c = 91 ∧ 10 * k ≤ x ∧ x < 10 * k + 10) ∨ (c = 92 ∧ 40 * k ≤ x ∧ x < 40 * k + 40)
theorem WMk_p {k c x : Nat} (h : WMk k c x) : ¬ isP c x := by unfold WMk at h; unfold isP; omega
theorem FMi_fr {k P : Nat} {D : PcD} {W : Nat → Nat → Prop} {M M' : Mm} (h : FMi k P D M) (f : Fr W M M') (hw : ∀ c x, W c x → ¬ (89 ≤ c ∧ c ≤ 92)) : FMi k P D M' := by
  refine ⟨(f.1 _ _ (fun w => hw _ _ w (by omega))).trans h.1, (f.1 _ _ (fun w => hw _ _ w (by omega))).trans h.2.1, fun i hi => ⟨(f.1 _ _ (fun w => hw _ _ w (by omega))).trans (h.2.2 i hi).1, fun j hj => (f.1 _ _ (fun w => hw _ _ w (by omega))).trans ((h.2.2 i hi).2 j hj)⟩⟩
theorem WLm_k {k c x : Nat} (h : WLm c x) : WMk k c x := by unfold WLm at h; unfold WMk; omega
theorem WFl_k {k c x : Nat} (h : WFl c x) : WMk k c x := by unfold WFl at h; unfold WMk; omega
theorem sp_or_ok {n : Nat} {b : Nat → Int} : ∀ f c (q : Ts × PcD), OKf q.2 → 1 ≤ pPt q.2 → OKf (spOr n b f c q).2 ∧ pPt (spOr n b f c q).2 = pPt q.2
  | 0, _, q, h, _ => ⟨h, rfl⟩
  | f + 1, c, q, h, h1 => by
    show OKf (if zW n b 2 (txs 3) q.1 = true then spOr n b f (c + 1) (spIns n b (zN n b 2 (if c = 4 then zF n b 4 q.1 else q.1), q.2)) else q).2 ∧ pPt (if zW n b 2 (txs 3) q.1 = true then spOr n b f (c + 1) (spIns n b (zN n b 2 (if c = 4 then zF n b 4 q.1 else q.1), q.2)) else q).2 = _
    split
    · have hd := dI_ok (v := (zV n b (zN n b 2 (if c = 4 then zF n b 4 q.1 else q.1))).toNat) h h1
      have := sp_or_ok (n := n) (b := b) f (c + 1) (spIns n b (zN n b 2 (if c = 4 then zF n b 4 q.1 else q.1), q.2)) hd.1 (by rw [show pPt (spIns n b (zN n b 2 (if c = 4 then zF n b 4 q.1 else q.1), q.2)).2 = pPt q.2 from hd.2.1]; exact h1)
      exact ⟨this.1, this.2.trans hd.2.1⟩
    · exact ⟨h, rfl⟩
section MP
variable {n : Nat} {b : Nat → Int} {p tk k i : Nat} {M : Mm} {D : PcD}
theorem m_dup (hs : Sh M) (hk : k < 10) (hi : i < 10) (hF : FMi k i D M) (hpt : pPt D = i + 1) (hO : OKf D) {v : Int} (hv : mg M 79 33 = v) (fl : Mm) (hfl : f_Model_fails M 80 3 = some (0, fl)) : loopN (l_Model_readPart_149 M 80 (k : Int) (i : Int)) FU 0 = some (if hasW D v = true then .inl (0, fl) else .inr ()) := by
  have h4 := hO.2.2.1 i
  have em := (hF.2.2 i (by omega)).1
  have hp1 : pPt D - 1 = i := by omega
  refine w_eq (wp_loop (fun j s => s = (j : Int) ∧ j ≤ pMy D i ∧ ∀ o, o < j → (pWh D i o : Int) ≠ v) (pMy D i) (by omega) ⟨rfl, Nat.zero_le _, fun o ho => by omega⟩ ?_)
  rintro j s hj ⟨rfl, hjl, hall⟩
  unfold l_Model_readPart_149
  rw [show cI 80 = 79 from rfl, p_79_14 hs, show cI 92 = 91 from rfl, n_91 hs, p_79_15 hs, show cI 93 = 92 from rfl, n_92 hs, w32_s (x := 10 * (k : Int)) (by omega) (by omega), w32_s (x := 10 * (k : Int) + (i : Int)) (by omega) (by omega), w32_s (x := 40 * (k : Int)) (by omega) (by omega), w32_s (x := 4 * (i : Int)) (by omega) (by omega), w32_s (x := 40 * (k : Int) + 4 * (i : Int)) (by omega) (by omega), w32_s (x := 40 * (k : Int) + 4 * (i : Int) + (j : Int)) (by omega) (by omega), show (10 * (k : Int) + (i : Int)).toNat = 10 * k + i by omega, em, hv]
  refine wI (by decide) (wI (by omega) (wC (fun c => wSr ?_) (fun c => wI (by decide) (wI (by omega) ?_))))
  · have : hasW D v = false := by
      unfold hasW
      rw [List.any_eq_false]
      intro o ho
      rw [List.mem_range, hp1] at ho
      rw [decide_eq_true_iff, hp1]
      exact hall o (by omega)
    rw [this]; rfl
  · rw [show (40 * (k : Int) + 4 * (i : Int) + (j : Int)).toNat = 40 * k + 4 * i + j by omega, (hF.2.2 i (by omega)).2 j (by omega)]
    refine wC (fun c2 => ?_) (fun c2 => ?_)
    · rw [w32_s (by omega) (by omega)]
      refine wL (wSl ⟨by omega, by omega, by omega, fun o ho => ?_⟩)
      by_cases e : o = j
      · rw [e]; exact c2
      · exact hall o (by omega)
    · rw [hfl]
      refine wSr ?_
      have : hasW D v = true := by
        unfold hasW
        rw [List.any_eq_true]
        exact ⟨j, List.mem_range.mpr (by rw [hp1]; omega), by rw [decide_eq_true_iff, hp1]; omega⟩
      rw [this]; rfl
theorem n_takesF {lo hi : Int} (h : RM false n b p M) : f_Model_takes M 80 lo hi = some (if tTg n b 2 p = 3 then (if lo ≤ tVl n b p ∧ tVl n b p ≤ hi then (1, M) else (0, flM n b 3 p M)) else (0, flM n b 1 p M)) := n_takes h
theorem m_or (ho : OKt n b) (hk : k < 10) (hi : i < 10) (h : RM false n b p M) (hF : FMi k i D M) (hO : OKf D) (hpt : pPt D = i + 1) (hmy : pMy D i = 0) : wp (loopN (l_Model_readPart_103 80 (k : Int) (i : Int)) FU (1, M)) (fun t => ∃ M', Fr (WMk k) M M' ∧ ((∃ y, (spOr n b 4 1 (spIns n b (zN n b 2 (.inl (p, tk)), D))).1 = .inl y ∧ t = .inr M' ∧ RM false n b y.1 M' ∧ FMi k i (spOr n b 4 1 (spIns n b (zN n b 2 (.inl (p, tk)), D))).2 M') ∨ (∃ e, (spOr n b 4 1 (spIns n b (zN n b 2 (.inl (p, tk)), D))).1 = .inr e ∧ t = .inl (0, M') ∧ FM n b e M'))) := by
  obtain ⟨fin, hfin⟩ : ∃ fin, fin = spOr n b 4 1 (spIns n b (zN n b 2 (.inl (p, tk)), D)) := ⟨_, rfl⟩
  rw [← hfin]
  refine wp_loop (fun j s => Fr (WMk k) M s.2 ∧ ((s.1 = 1 ∧ j ≤ 4 ∧ ∃ p' tk' D', RM false n b p' s.2 ∧ FMi k i D' s.2 ∧ OKf D' ∧ pPt D' = i + 1 ∧ pMy D' i = j ∧ fin = spOr n b (4 - j) (j + 1) (spIns n b (zN n b 2 (if j = 4 then zF n b 4 (.inl (p', tk')) else .inl (p', tk')), D'))) ∨ (s.1 = 0 ∧ ∃ y, fin.1 = .inl y ∧ RM false n b y.1 s.2 ∧ FMi k i fin.2 s.2))) 4 (by decide) ⟨Fr_rf, Or.inl ⟨rfl, by decide, p, tk, D, h, hF, hO, hpt, hmy, hfin⟩⟩ ?_
  rintro j ⟨x, m⟩ hj ⟨hf, hc⟩
  have hf : Fr (WMk k) M m := hf
  unfold l_Model_readPart_103
  simp only []
  rcases hc with ⟨hx, hj4, p', tk', D', h1, hF1, hO1, hpt1, hmy1, hq⟩ | ⟨hx, y, hy, h1, hF1⟩
  · have hx : x = 1 := hx
    have h1 : RM false n b p' m := h1
    have hF1 : FMi k i D' m := hF1
    have hs := h1.1.1
    have em := (hF1.2.2 i (by omega)).1
    have hp1 : pPt D' - 1 = i := by omega
    refine wE (by rw [hx]; decide) ?_
    rw [show cI 80 = 79 from rfl, p_79_14 hs, show cI 92 = 91 from rfl, n_91 hs, w32_s (x := 10 * (k : Int)) (by omega) (by omega), w32_s (x := 10 * (k : Int) + (i : Int)) (by omega) (by omega), show (10 * (k : Int) + (i : Int)).toNat = 10 * k + i by omega, em, hmy1]
    refine wI (by decide) (wI (by omega) (wC (fun c => ?_) (fun c => ?_)))
    · have hjl : j < 4 := by omega
      rw [if_neg (by omega)] at hq
      refine wK (n_next ho h1 rfl) (fun m1 g1 => ?_)
      obtain ⟨g1, f1⟩ := g1
      have hF2 : FMi k i D' m1 := FMi_fr hF1 f1 (fun c x w => by unfold WLm at w; omega)
      have hs1 := g1.1.1
      have e2 : zN n b 2 (.inl (p', tk')) = .inl (tEn n b p', tks n b 2 (tEn n b p') tk') := rfl
      rw [e2, spIns_v ho] at hq
      rw [n_takesF g1]
      refine wX rfl ?_
      obtain ⟨p1, hp1e⟩ : ∃ p1, p1 = tEn n b p' := ⟨_, rfl⟩
      rw [← hp1e] at hq g1 ⊢
      have fm1 : Fr (WMk k) M m1 := Fr_tr hf (Fr_sub f1 (fun c x w => WLm_k w))
      by_cases c3 : tTg n b 2 p1 = 3
      · rw [if_pos c3] at hq ⊢
        by_cases c4 : 0 ≤ tVl n b p1 ∧ tVl n b p1 ≤ 9
        · rw [if_pos c4]
          refine wI (show (1 : Int) ≠ 0 by decide) ?_
          have hv : mg m1 79 33 = tVl n b p1 := g1.2.2.2.2.2.2.1 c3
          simp only []
          rw [m_dup hs1 hk hi hF2 hpt1 hO1 hv _ (n_fails g1 3), Option.bind_some]
          cases hw : hasW D' (tVl n b p1) with
          | true =>
            rw [hw, if_neg (fun e => absurd e.2 (by decide))] at hq
            replace hq := hq.trans (spOr_inr (fun e => e))
            rw [if_pos (show true = true from rfl)]
            refine wSr ⟨_, Fr_tr fm1 (Fr_sub (fl_fr (n := n) (b := b) (p := p1) (w := 3)) (fun c x w => WFl_k w)), Or.inr ⟨(3, (tPl n b p1 : Int)), by rw [hq], rfl, fl_ok g1.1⟩⟩
          | false =>
            rw [hw, if_pos ⟨c4, rfl⟩] at hq
            rw [if_neg (show ¬ (false = true) by decide)]
            show wp (if mg m1 79 14 ≠ 0 then _ else none) _
            have em1 := (hF2.2.2 i (by omega)).1
            rw [p_79_14 hs1, show cI 92 = 91 from rfl, n_91 hs1, p_79_15 hs1, show cI 93 = 92 from rfl, n_92 hs1, em1, hmy1, w32_s (x := 40 * (k : Int)) (by omega) (by omega), w32_s (x := 4 * (i : Int)) (by omega) (by omega), w32_s (x := 40 * (k : Int) + 4 * (i : Int)) (by omega) (by omega), w32_s (x := 40 * (k : Int) + 4 * (i : Int) + (j : Int)) (by omega) (by omega), show (40 * (k : Int) + 4 * (i : Int) + (j : Int)).toNat = 40 * k + 4 * i + j by omega, hv]
            refine wI (by decide) (wI (by omega) (wI (by decide) (wI (by omega) (wL ?_))))
            obtain ⟨m2, em2⟩ : ∃ m2, m2 = mp m1 92 (40 * k + 4 * i + j) (tVl n b p1) := ⟨_, rfl⟩
            rw [← em2]
            have hs2 : Sh m2 := by rw [em2]; exact Sh_mp hs1 (by unfold isP; omega)
            rw [p_79_14 hs2, show cI 92 = 91 from rfl, n_91 hs2, show mg m2 91 (10 * k + i) = (j : Int) by rw [em2, mg_mp_n (by omega), em1, hmy1], w32_s (x := (j : Int) + 1) (by omega) (by omega)]
            refine wI (by decide) (wI (by omega) (wL ?_))
            have fw : Fr (fun c x => (c = 92 ∧ x = 40 * k + 4 * i + j) ∨ (c = 91 ∧ x = 10 * k + i)) m1 (mp m2 91 (10 * k + i) ((j : Int) + 1)) := by rw [em2]; exact Fr_wr (Fr_mp (Or.inl ⟨rfl, rfl⟩)) (Or.inr ⟨rfl, rfl⟩)
            have hR2 : RM false n b p1 (mp m2 91 (10 * k + i) ((j : Int) + 1)) := RM_fr g1 fw (fun c x w => by unfold isP; omega)
            have h4 : pMy D' (pPt D' - 1) < 4 := by rw [hp1]; omega
            have hF3 : FMi k i (dIns D' (tVl n b p1).toNat) (mp m2 91 (10 * k + i) ((j : Int) + 1)) := by
              rw [dI_t h4]
              refine ⟨?_, ?_, fun i' hi' => ?_⟩
              · rw [fw.1 _ _ (by omega)]; exact hF2.1
              · rw [fw.1 _ _ (by omega)]; exact hF2.2.1
              · have hi' : i' < pPt D' := hi'
                show _ = ((up (pMy D') (pPt D' - 1) (pMy D' (pPt D' - 1) + 1) i' : Nat) : Int) ∧ ∀ j', j' < up (pMy D') (pPt D' - 1) (pMy D' (pPt D' - 1) + 1) i' → _ = ((up2 (pWh D') (pPt D' - 1) (pMy D' (pPt D' - 1)) (tVl n b p1).toNat i' j' : Nat) : Int)
                rw [hp1, hmy1]
                have old := hF2.2.2 i' hi'
                have h4i := hO1.2.2.1 i'
                by_cases ei : i' = i
                · subst ei
                  rw [up_s]
                  refine ⟨by rw [mg_mp_s]; omega, fun j' hj' => ?_⟩
                  unfold up2
                  by_cases ej : j' = j
                  · rw [if_pos ⟨rfl, ej⟩, ej, mg_mp_n (by omega), em2, mg_mp_s]; omega
                  · rw [if_neg (fun e => ej e.2), fw.1 _ _ (by omega)]; exact old.2 j' (by omega)
                · rw [up_n ei]
                  refine ⟨by rw [fw.1 _ _ (by omega)]; exact old.1, fun j' hj' => ?_⟩
                  unfold up2
                  rw [if_neg (fun e => ei e.1), fw.1 _ _ (by omega)]; exact old.2 j' hj'
            have hd := dI_ok (v := (tVl n b p1).toNat) hO1 (show 1 ≤ pPt D' by omega)
            refine wK (n_next ho hR2 rfl) (fun m4 g4 => ?_)
            obtain ⟨g4, f4⟩ := g4
            have fm4 : Fr (WMk k) M m4 := Fr_tr fm1 (Fr_tr (Fr_sub fw (fun c x w => by unfold WMk; omega)) (Fr_sub f4 (fun c x w => WLm_k w)))
            have hF4 : FMi k i (dIns D' (tVl n b p1).toNat) m4 := FMi_fr hF3 f4 (fun c x w => by unfold WLm at w; omega)
            rw [n_isWord ho g4 (w := 3) (tk := tks n b 2 (tEn n b p1) (tks n b 2 p1 tk')) (by decide) m_w3, Option.bind_some]
            have e4 : 4 - j = (4 - (j + 1)) + 1 := by omega
            have un : fin = if zW n b 2 (txs 3) (.inl (tEn n b p1, tks n b 2 (tEn n b p1) (tks n b 2 p1 tk'))) = true then spOr n b (4 - (j + 1)) (j + 1 + 1) (spIns n b (zN n b 2 (if j + 1 = 4 then zF n b 4 (.inl (tEn n b p1, tks n b 2 (tEn n b p1) (tks n b 2 p1 tk'))) else (.inl (tEn n b p1, tks n b 2 (tEn n b p1) (tks n b 2 p1 tk')))), dIns D' (tVl n b p1).toNat)) else (.inl (tEn n b p1, tks n b 2 (tEn n b p1) (tks n b 2 p1 tk')), dIns D' (tVl n b p1).toNat) := by rw [hq, e4]; rfl
            cases hz : zW n b 2 (txs 3) (.inl (tEn n b p1, tks n b 2 (tEn n b p1) (tks n b 2 p1 tk'))) with
            | true =>
              rw [hz, if_pos rfl] at un
              refine wSl ⟨hjl, fm4, Or.inl ⟨rfl, hjl, _, _, _, g4, hF4, hd.1, hd.2.1.trans hpt1, ?_, un⟩⟩
              rw [dI_t h4]
              show up (pMy D') (pPt D' - 1) (pMy D' (pPt D' - 1) + 1) i = j + 1
              rw [hp1, up_s, hmy1]
            | false =>
              rw [hz, if_neg (by decide)] at un
              refine wSl ⟨hjl, fm4, Or.inr ⟨rfl, (tEn n b p1, tks n b 2 (tEn n b p1) (tks n b 2 p1 tk')), by rw [un], g4, by rw [un]; exact hF4⟩⟩
        · rw [if_neg c4]
          rw [if_neg (fun e => c4 e.1)] at hq
          replace hq := hq.trans (spOr_inr (fun e => e))
          refine wE (show ¬ (0 : Int) ≠ 0 by decide) ?_
          exact wSr ⟨_, Fr_tr fm1 (Fr_sub (fl_fr (n := n) (b := b) (p := p1) (w := 3)) (fun c x w => WFl_k w)), Or.inr ⟨(3, (tPl n b p1 : Int)), by rw [hq], rfl, fl_ok g1.1⟩⟩
      · rw [if_neg c3] at hq ⊢
        replace hq := hq.trans (spOr_inr (fun e => e))
        refine wE (show ¬ (0 : Int) ≠ 0 by decide) ?_
        exact wSr ⟨_, Fr_tr fm1 (Fr_sub (fl_fr (n := n) (b := b) (p := p1) (w := 1)) (fun c x w => WFl_k w)), Or.inr ⟨(1, (tPl n b p1 : Int)), by rw [hq], rfl, fl_ok g1.1⟩⟩
    · have hj : j = 4 := by omega
      rw [n_fails h1, Option.bind_some]
      rw [if_pos hj] at hq
      have hq1 : fin.1 = .inr (4, (tPl n b p' : Int)) := by
        rw [hq, spOr_inr]
        · exact spIns_inr (q := (zN n b 2 (zF n b 4 (.inl (p', tk'))), D')) (fun e => e)
        · intro e
          rw [spIns_inr (q := (zN n b 2 (zF n b 4 (.inl (p', tk'))), D')) (fun e => e)] at e
          exact e
      exact wSr ⟨_, Fr_tr hf (Fr_sub (fl_fr (n := n) (b := b) (p := p') (w := 4)) (fun c x w => WFl_k w)), Or.inr ⟨(4, (tPl n b p' : Int)), hq1, rfl, fl_ok h1.1⟩⟩
  · have hx : x = 0 := hx
    exact wI hx (wSr ⟨m, hf, Or.inl ⟨y, hy, rfl, h1, hF1⟩⟩)
end MP
