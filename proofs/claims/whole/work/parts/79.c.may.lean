/-! may on both sides -/
def WMay (c x : Nat) : Prop := c = 59 ∨ c = 60 ∨ c = 51 ∨ c = 52 ∨ (c = 50 ∧ x = 6)
section MAY
variable {M : Mm} {n : Nat} {ag jo pa : Nat → Int} {co : Nat → Nat → Int} {he : Nat → Bool} {w : Nat} {wc wd wt : Nat → Int} {rl : List Int}
theorem CBr_fr {W : Nat → Nat → Prop} {M' : Mm} (h : CBr rl M) (f : Fr W M M') (hw : ∀ c x, W c x → ¬ (c = 50 ∧ 2 ≤ x ∧ x ≤ 4) ∧ c ≠ 53 ∧ c ≠ 54) : CBr rl M' := by
  obtain ⟨st, dr, hsd, h2, h3, h4, h5, h6⟩ := h
  have e : ∀ x, 2 ≤ x → x ≤ 4 → mg M' 50 x = mg M 50 x := fun x a1 a2 => f.1 50 x (fun w => (hw _ _ w).1 ⟨rfl, a1, a2⟩)
  refine ⟨st, dr, hsd, (e 2 (by omega) (by omega)).trans h2, (e 3 (by omega) (by omega)).trans h3, (e 4 (by omega) (by omega)).trans h4, h5, fun i hi => (f.1 _ _ (fun w => ?_)).trans (h6 i hi)⟩
  have := (hw _ _ w).2
  omega
theorem CMr_fr {W : Nat → Nat → Prop} {M' : Mm} (h : CMr rl M) (f : Fr W M M') (hw : ∀ c x, W c x → ¬ (c = 79 ∧ x = 38) ∧ c ≠ 103 ∧ c ≠ 104) : CMr rl M' :=
  ⟨(f.1 _ _ (fun w => (hw _ _ w).1 ⟨rfl, rfl⟩)).trans h.1, fun i hi => ⟨(f.1 _ _ (fun w => (hw _ _ w).2.1 rfl)).trans (h.2 i hi).1, (f.1 _ _ (fun w => (hw _ _ w).2.2 rfl)).trans (h.2 i hi).2⟩⟩
theorem b_may_f (hs : Sh M) (hp : CBp n ag jo pa co he M) {p d : Int} (hc : ¬ ((0 ≤ p ∧ p < (n : Int)) ∧ (0 ≤ d ∧ d ≤ 999))) : f_Band_may M 1 p d = some (-1, M) := by
  unfold f_Band_may
  rw [show cI 1 = 0 from rfl, p_0_0 hs, q_has_n hp.1, Option.bind_some, q_day, Option.bind_some, if_pos (by decide)]
  by_cases c1 : 0 ≤ p ∧ p < (n : Int)
  · rw [if_pos c1, if_neg (by decide), if_neg (fun e => hc ⟨c1, e⟩)]; rfl
  · rw [if_neg c1]; rfl
theorem b_may_t (hs : Sh M) (hp : CBp n ag jo pa co he M) (hk : n ≤ 14) (hw : CBw w wc wd wt M) (how : OKw w wc) (hr : CBr rl M) (hok : OKr rl) {p : Nat} {d : Int} (hpn : p < n) (hd : 0 ≤ d ∧ d ≤ 999) : wp (f_Band_may M 1 (p : Int) d) (fun q => q.1 = mayR rl (fsV ag jo pa wc wd wt w p d) ∧ Fr WMay M q.2) := by
  unfold f_Band_may
  rw [show cI 1 = 0 from rfl, p_0_0 hs, q_has_n hp.1, Option.bind_some, q_day, Option.bind_some, if_pos (show 0 ≤ (p : Int) ∧ (p : Int) < (n : Int) by omega), if_pos hd, show cI 2 = 1 from rfl, p_1_0 hs, show cI 3 = 2 from rfl, n_2 hs, p_1_2 hs, show cI 5 = 4 from rfl, n_4 hs, p_0_4 hs, show cI 56 = 55 from rfl, hw.1, p_0_3 hs, Int.toNat_natCast, (hp.2.1 p hpn).1, hp.2.2.1 p (by omega)]
  refine wI (by decide) (wE (by decide) (wI (by decide) (wI (by decide) (wI (by omega) (wI (by decide) (wI (by omega) (wI (by decide) (wK (b_copiesAt hs hw how (p : Int) d (Nat.le_refl w)) (fun q1 g1 => ?_)))))))))
  obtain ⟨o1, f1⟩ := g1
  have s1 : Sh q1.2 := Sh_fr hs f1 (fun c x w => by unfold WLo at w; unfold isP; omega)
  refine wI (by decide) ?_
  unfold f_Rule_setPlayer
  rw [show cI 51 = 50 from rfl, p_50_0 s1, show cI 52 = 51 from rfl, n_51 s1]
  have sp0 : Sh (mp q1.2 51 (0 : Int).toNat (ag p)) := Sh_mp s1 (by unfold isP; omega)
  refine wB (wI (by decide) (wI (by omega) (wL ?_)))
  rw [p_50_0 sp0, show cI 52 = 51 from rfl, n_51 sp0]
  have sp1 : Sh (mp (mp q1.2 51 (0 : Int).toNat (ag p)) 51 (2 : Int).toNat (pa p)) := Sh_mp sp0 (by unfold isP; omega)
  refine wI (by decide) (wI (by omega) (wL ?_))
  rw [p_50_0 sp1, show cI 52 = 51 from rfl, n_51 sp1, o1]
  refine wI (by decide) (wI (by omega) (wL (wS ?_)))
  obtain ⟨m2, e2⟩ : ∃ m2, m2 = mp (mp (mp q1.2 51 (0 : Int).toNat (ag p)) 51 (2 : Int).toNat (pa p)) 51 (3 : Int).toNat (cps wc wd wt (p : Int) d w 30) := ⟨_, rfl⟩
  rw [← e2]
  have f2 : Fr (fun c x => c = 51) q1.2 m2 := by rw [e2]; exact Fr_wr (Fr_wr (Fr_mp rfl) rfl) rfl
  have s2 : Sh m2 := Sh_fr s1 f2 (fun c x w => by unfold isP; omega)
  have a0 : mg m2 51 0 = ag p := by rw [e2, mg_mp_n (by omega), mg_mp_n (by omega)]; exact mg_mp_s _ _ _ _
  have a2 : mg m2 51 2 = pa p := by rw [e2, mg_mp_n (by omega)]; exact mg_mp_s _ _ _ _
  have a3 : mg m2 51 3 = cps wc wd wt (p : Int) d w 30 := by rw [e2]; exact mg_mp_s _ _ _ _
  clear e2
  rw [p_0_0 s2, show cI 2 = 1 from rfl, p_1_1 s2, show cI 4 = 3 from rfl, n_3 s2, p_0_3 s2, f2.1 3 p (by omega), f1.1 3 p (by unfold WLo; omega), (hp.2.1 p hpn).2]
  refine wI (by decide) (wI (by decide) (wI (by omega) (wI (by decide) ?_)))
  unfold f_Rule_setDay
  rw [show cI 51 = 50 from rfl, p_50_0 s2, show cI 52 = 51 from rfl, n_51 s2]
  have sp2 : Sh (mp m2 51 (4 : Int).toNat d) := Sh_mp s2 (by unfold isP; omega)
  refine wB (wI (by decide) (wI (by omega) (wL ?_)))
  rw [p_50_0 sp2, show cI 52 = 51 from rfl, n_51 sp2]
  refine wI (by decide) (wI (by omega) (wL (wS ?_)))
  obtain ⟨m3, e3⟩ : ∃ m3, m3 = mp (mp m2 51 (4 : Int).toNat d) 51 (1 : Int).toNat (w32 (d - jo p)) := ⟨_, rfl⟩
  rw [← e3]
  have f3 : Fr (fun c x => c = 51) m2 m3 := by rw [e3]; exact Fr_wr (Fr_mp rfl) rfl
  have f3' : Fr (fun c x => c = 51 ∧ (x = 4 ∨ x = 1)) m2 m3 := by rw [e3]; exact Fr_wr (Fr_mp ⟨rfl, Or.inl rfl⟩) ⟨rfl, Or.inr rfl⟩
  have s3 : Sh m3 := Sh_fr s2 f3 (fun c x w => by unfold isP; omega)
  have a4 : mg m3 51 4 = d := by rw [e3, mg_mp_n (by omega)]; exact mg_mp_s _ _ _ _
  have a1 : mg m3 51 1 = w32 (d - jo p) := by rw [e3]; exact mg_mp_s _ _ _ _
  clear e3
  have F3 : Fr WMay M m3 := Fr_tr (Fr_sub f1 (fun c x w => by unfold WLo at w; unfold WMay; omega)) (Fr_tr (Fr_sub f2 (fun c x w => by unfold WMay; omega)) (Fr_sub f3 (fun c x w => by unfold WMay; omega)))
  rw [p_0_3 s3]
  refine wI (by decide) (wK (k_allows (fs := fsV ag jo pa wc wd wt w p d) s3 (CBr_fr hr F3 (fun c x w => by unfold WMay at w; omega)) hok (fun i hi => ?_)) (fun q g => ?_))
  · match i, hi with
    | 0, _ => rw [f3'.1 51 0 (by omega), a0]; rfl
    | 1, _ => rw [a1]; rfl
    | 2, _ => rw [f3'.1 51 2 (by omega), a2]; rfl
    | 3, _ => rw [f3'.1 51 3 (by omega), a3]; rfl
    | 4, _ => rw [a4]; rfl
  · obtain ⟨k1, k2, k3⟩ := g
    have F4 : Fr WMay M q.2 := Fr_tr F3 (Fr_sub k3 (fun c x w => by unfold WKb at w; unfold WMay; omega))
    rw [k1]
    refine wC (fun c => wS ⟨c.symm, F4⟩) (fun c => wS ⟨?_, F4⟩)
    rcases k2 with e | e
    · exact absurd e c
    · exact e.symm
/-! the reference's may -/
theorem m_may_f (hp : CMp n ag jo pa co he M) {p d : Int} (hc : ¬ ((0 ≤ p ∧ p < (n : Int)) ∧ (0 ≤ d ∧ d ≤ 999))) : f_Model_may M 80 p d = some (-1, mp M 79 0 0) := by
  unfold f_Model_may
  simp only [lt]
  have h1 : mg (mp M (cI 80) 0 0) 79 1 = (n : Int) := by rw [show cI 80 = 79 from rfl, mg_mp_n (by omega)]; exact hp.1
  rw [m_has_n h1, Option.bind_some, m_day, Option.bind_some]
  by_cases c1 : 0 ≤ p ∧ p < (n : Int)
  · rw [if_pos c1, if_neg (by decide), if_neg (fun e => hc ⟨c1, e⟩)]; rfl
  · rw [if_neg c1]; rfl
theorem jn_done {sg l r x : Int} (h : jnO sg l r = some x) : f_Model_done M 80 sg l r = some x := by
  have hc := jn_set h
  unfold f_Model_done j_Model_done_107 j_Model_done_95 j_Model_done_112
  rcases hc with rfl | rfl | rfl | rfl | rfl | ⟨hs, hl, hr⟩
  · rw [if_neg (by decide)]; exact h
  · rw [if_pos (by decide), if_neg (by decide)]; exact h
  · rw [if_pos (by decide), if_pos (by decide), if_neg (by decide)]
    have h : some (if l < r then (1 : Int) else 0) = some x := h
    rw [← h]
    by_cases c : l < r
    · rw [if_neg (show ¬ r ≤ l by omega), if_pos c]; rfl
    · rw [if_pos (show r ≤ l by omega), if_neg c]; rfl
  · rw [if_pos (by decide), if_pos (by decide), if_pos (by decide), if_neg (by decide)]
    have h : some (if l = r then (1 : Int) else 0) = some x := h
    rw [← h]
    by_cases c : l = r
    · rw [if_neg (show ¬ l ≠ r by omega), if_pos c]; rfl
    · rw [if_pos (show l ≠ r from c), if_neg c]; rfl
  · rw [if_pos (by decide), if_pos (by decide), if_pos (by decide), if_pos (by decide), if_neg (by decide)]
    have h : some (if r < l then (1 : Int) else 0) = some x := h
    rw [← h]
    by_cases c : r < l
    · rw [if_neg (show ¬ l ≤ r by omega), if_pos c]; rfl
    · rw [if_pos (show l ≤ r by omega), if_neg c]; rfl
  · unfold jnO at h
    rw [if_neg (by omega), if_neg (by omega), if_neg (by omega), if_neg (by omega), if_neg (by omega), if_pos ⟨hs, hl, hr⟩] at h
    rw [if_pos (by omega), if_pos (by omega), if_pos (by omega), if_pos (by omega), if_pos (by omega)]
    rcases hs with rfl | rfl <;> rcases hl with rfl | rfl <;> rcases hr with rfl | rfl <;> exact h
def WMm (c x : Nat) : Prop := (c = 79 ∧ x = 0) ∨ c = 108
def KMs (s : List Int) (M : Mm) : Prop := ∀ j, j < s.length → mg M 108 j = s.reverse.getD j 0
theorem KMs_push {s : List Int} (h : KMs s M) (x : Int) : KMs (x :: s) (mp M 108 s.length x) := fun j hj => by
  have hj : j < s.length + 1 := hj
  by_cases ej : j = s.length
  · rw [ej, mg_mp_s, rv_top]
  · rw [mg_mp_n (by omega), rv_old (by omega)]; exact h j (by omega)
theorem KMs_pop {s : List Int} {x : Int} (h : KMs (x :: s) M) : KMs s M ∧ mg M 108 s.length = x := ⟨fun j hj => by rw [h j (Nat.lt_succ_of_lt hj), rv_old hj], by rw [h s.length (Nat.lt_succ_self _), rv_top]⟩
theorem m_may_t (hs : Sh M) (hp : CMp n ag jo pa co he M) (hk : n ≤ 14) (hw : CMw w wc wd wt M) (how : w ≤ 200) (hr : CMr rl M) (hok : OKr rl) {p : Nat} {d : Int} (hpn : p < n) (hd : 0 ≤ d ∧ d ≤ 999) : wp (f_Model_may M 80 (p : Int) d) (fun q => q.1 = mayR rl (fsV ag jo pa wc wd wt w p d) ∧ Fr WMm M q.2) := by
  obtain ⟨fs, hfs⟩ : ∃ fs, fs = fsV ag jo pa wc wd wt w p d := ⟨_, rfl⟩
  rw [← hfs]
  unfold f_Model_may
  rw [show cI 80 = 79 from rfl]
  have f0 : Fr WMm M (mp M 79 0 0) := Fr_mp (Or.inl ⟨rfl, rfl⟩)
  refine wL ?_
  generalize mp M 79 0 0 = m0 at *
  have c0 : CMp n ag jo pa co he m0 := CMp_fr hp f0 (fun c x w => by unfold WMm at w; omega)
  have r0 : CMr rl m0 := CMr_fr hr f0 (fun c x w => by unfold WMm at w; omega)
  rw [m_has_n c0.1, Option.bind_some, m_day, Option.bind_some, if_pos (show 0 ≤ (p : Int) ∧ (p : Int) < (n : Int) by omega), if_pos hd, r0.1]
  refine wE (by decide) (wI (by decide) ?_)
  by_cases cE : rl = []
  · subst cE
    exact wE (fun e => e rfl) (wS ⟨rfl, f0⟩)
  · have hS := hok.2.resolve_left cE
    obtain ⟨v, hv, hex⟩ := hS fs 32 [] (by decide)
    have eR : mayR rl fs = v := by unfold mayR; rw [if_neg cE, hex]
    have hlen : rl.length ≠ 0 := fun e => cE (List.length_eq_zero_iff.mp e)
    have h800 := hok.1
    rw [eR]
    refine wI (by omega) (wK (wp_loop (Q := fun m => mg m 108 0 = v ∧ Fr WMm M m) (fun (i : Nat) (t : Int × Int × Mm) => t.2.1 = (i : Int) ∧ i ≤ rl.length ∧ Fr WMm M t.2.2 ∧ ∃ s, t.1 = (s.length : Int) ∧ KMs s t.2.2 ∧ s.length ≤ 32 ∧ exL fs 32 (rl.drop i) s = some [v]) rl.length (by omega) ⟨rfl, Nat.zero_le _, f0, [], rfl, fun j hj => absurd hj (Nat.not_lt_zero _), by decide, hex⟩ ?_) (fun m g => ?_))
    · rintro i ⟨tp, z, m⟩ hi ⟨hz, hil, hf1, s, htp, hk1, hsl, hx⟩
      have hz : z = (i : Int) := hz
      have hf1 : Fr WMm M m := hf1
      have hk1 : KMs s m := hk1
      have htp : tp = (s.length : Int) := htp
      subst hz htp
      have s1 : Sh m := Sh_fr hs hf1 (fun c x w => by unfold WMm at w; unfold isP; omega)
      have c1 : CMp n ag jo pa co he m := CMp_fr hp hf1 (fun c x w => by unfold WMm at w; omega)
      have w1 : CMw w wc wd wt m := CMw_fr hw hf1 (fun c x w => by unfold WMm at w; omega)
      have r1 : CMr rl m := CMr_fr hr hf1 (fun c x w => by unfold WMm at w; omega)
      unfold l_Model_may_37
      simp only []
      rw [show cI 80 = 79 from rfl, r1.1]
      refine wC (fun c => wSr ?_) (fun c => ?_)
      · have : i = rl.length := by omega
        rw [this, List.drop_length] at hx
        cases hx
        exact ⟨(KMs_pop hk1).2, hf1⟩
      · have hil2 : i < rl.length := by omega
        obtain ⟨s', e1, e2⟩ := exL_step hil2 hx
        have hl' := exS_len e1 hsl
        rw [p_79_39 s1, show cI 104 = 103 from rfl, n_103 s1, Int.toNat_natCast, (r1.2 i hil2).1, p_79_46 s1, p_79_40 s1, show cI 105 = 104 from rfl, n_104 s1, (r1.2 i hil2).2, p_79_2 s1, show cI 81 = 80 from rfl, n_80 s1, p_79_3 s1, show cI 82 = 81 from rfl, n_81 s1, p_79_4 s1, show cI 83 = 82 from rfl, n_82 s1, show cI 109 = 108 from rfl, n_108 s1, Int.toNat_natCast]
        refine wI (by decide) (wI (by omega) (wL ?_))
        generalize rl.getD i 0 = a at *
        have push : ∀ x, s' = x :: s → wp (j_Model_may_217_37 m 80 (p : Int) d (s.length : Int) (i : Int) x (s.length : Int) 109) (Sum.elim (fun t : Int × Int × Mm => i < rl.length ∧ t.2.1 = ((i + 1 : Nat) : Int) ∧ i + 1 ≤ rl.length ∧ Fr WMm M t.2.2 ∧ ∃ s, t.1 = (s.length : Int) ∧ KMs s t.2.2 ∧ s.length ≤ 32 ∧ exL fs 32 (rl.drop (i + 1)) s = some [v]) (fun m => mg m 108 0 = v ∧ Fr WMm M m)) := fun x e => by
          rw [e] at e2 hl'
          have hl' : s.length + 1 ≤ 32 := hl'
          unfold j_Model_may_217_37
          rw [show cI 109 = 108 from rfl, n_108 s1, Int.toNat_natCast, w32_s (x := (s.length : Int) + 1) (by omega) (by omega), w32_s (by omega) (by omega)]
          exact wI (by decide) (wI (by omega) (wL (wL (wL (wSl ⟨hil2, by show (i : Int) + 1 = _; omega, by omega, Fr_wr hf1 (Or.inr rfl), x :: s, by show (s.length : Int) + 1 = ((s.length + 1 : Nat) : Int); omega, KMs_push hk1 x, hl', e2⟩)))))
        unfold exS at e1
        by_cases p0 : 0 ≤ a
        · rw [if_pos p0] at e1
          have ea : acV a = 0 := by unfold acV; rw [if_neg (by omega)]
          have eb : woV a = a := by unfold woV; rw [if_neg (by omega)]
          rw [ea, eb]
          refine wI (by decide) (wI (by decide) (wE (by decide) (wI (by decide) (wI (by omega) (push a ?_)))))
          split at e1
          · cases e1; rfl
          · cases e1
        · rw [if_neg p0] at e1
          have ea : acV a = -a := by unfold acV; rw [if_pos (by omega)]
          rw [ea]
          by_cases p5 : -5 ≤ a
          · rw [if_pos p5] at e1
            have es : s' = fs (-1 - a).toNat :: s := by
              split at e1
              · cases e1; rfl
              · cases e1
            refine wI (by omega) (wI (by omega) (wI (by omega) ?_))
            by_cases q1 : a = -1
            · subst q1
              refine wE (by decide) (wI (by decide) (wI (by omega) ?_))
              rw [(c1.2.1 p hpn).1]
              exact push _ (by rw [es, hfs]; rfl)
            · refine wI (by omega) ?_
              by_cases q2 : a = -2
              · subst q2
                refine wE (by decide) (wI (by decide) (wI (by omega) ?_))
                rw [(c1.2.1 p hpn).2]
                exact push _ (by rw [es, hfs]; rfl)
              · refine wI (by omega) ?_
                by_cases q3 : a = -3
                · subst q3
                  refine wE (by decide) (wI (by decide) (wI (by omega) ?_))
                  rw [c1.2.2.1 p (by omega)]
                  exact push _ (by rw [es, hfs]; rfl)
                · refine wI (by omega) ?_
                  by_cases q4 : a = -4
                  · subst q4
                    refine wE (by decide) ?_
                    rw [w1.1, m_copiesAt s1 w1 how _ _ (Nat.le_refl w), Option.bind_some]
                    exact push _ (by rw [es, hfs]; rfl)
                  · have q5 : a = -5 := by omega
                    subst q5
                    exact wI (by decide) (push _ (by rw [es, hfs]; rfl))
          · rw [if_neg p5] at e1
            by_cases p33 : a = -33
            · rw [if_pos p33] at e1
              subst p33
              cases s with
              | nil => cases e1
              | cons x s =>
                cases e1
                have hl0 : ((x :: s).length : Int) = (s.length : Int) + 1 := by show ((s.length + 1 : Nat) : Int) = _; omega
                have hsl : s.length + 1 ≤ 32 := hsl
                obtain ⟨kp, kx⟩ := KMs_pop hk1
                unfold j_Model_may_85_37
                rw [hl0, w32_s (x := (s.length : Int) + 1 - 1) (by omega) (by omega), show (s.length : Int) + 1 - 1 = (s.length : Int) by omega, Int.toNat_natCast, kx, show cI 109 = 108 from rfl, n_108 s1, w32_s (x := (i : Int) + 1) (by omega) (by omega)]
                refine wE (by decide) (wI (by decide) (wI (by omega) ?_))
                by_cases cx : x = 0
                · rw [if_pos cx] at e2 hl'
                  exact wE (by omega) (wI (by omega) (wL (wL (wSl ⟨hil2, by show (i : Int) + 1 = _; omega, by omega, Fr_wr hf1 (Or.inr rfl), 1 :: s, by show (s.length : Int) + 1 = ((s.length + 1 : Nat) : Int); omega, KMs_push kp 1, hl', e2⟩))))
                · rw [if_neg cx] at e2 hl'
                  exact wI cx (wI (by omega) (wL (wL (wSl ⟨hil2, by show (i : Int) + 1 = _; omega, by omega, Fr_wr hf1 (Or.inr rfl), 0 :: s, by show (s.length : Int) + 1 = ((s.length + 1 : Nat) : Int); omega, KMs_push kp 0, hl', e2⟩))))
            · rw [if_neg p33] at e1
              match s, e1, hk1, hsl with
              | [], e1, _, _ => cases e1
              | [_], e1, _, _ => cases e1
              | r :: l :: s, e1, hk1, hsl =>
                have e1 : (jnO (-a) l r).map (fun x => x :: s) = some s' := e1
                have hsl : s.length + 1 + 1 ≤ 32 := hsl
                cases hj : jnO (-a) l r with
                | none => rw [hj] at e1; cases e1
                | some x =>
                  rw [hj] at e1
                  cases e1
                  have hl0 : ((r :: l :: s).length : Int) = (s.length : Int) + 1 + 1 := by show ((s.length + 1 + 1 : Nat) : Int) = _; omega
                  obtain ⟨k1, kr⟩ := KMs_pop hk1
                  obtain ⟨k2, kl⟩ := KMs_pop k1
                  have kr : mg m 108 (s.length + 1) = r := kr
                  rw [hl0, w32_s (x := (s.length : Int) + 1 + 1 - 1) (by omega) (by omega), show (s.length : Int) + 1 + 1 - 1 = (s.length : Int) + 1 by omega]
                  refine wI (by omega) (wE (by omega) (wL ?_))
                  rw [w32_s (x := (s.length : Int) + 1 - 1) (by omega) (by omega), show (s.length : Int) + 1 - 1 = (s.length : Int) by omega, Int.toNat_natCast, show ((s.length : Int) + 1).toNat = s.length + 1 by omega, kr, kl, jn_done hj, Option.bind_some, w32_s (by omega) (by omega)]
                  exact wI (by decide) (wI (by omega) (wI (by omega) (wL (wL (wSl ⟨hil2, by show (i : Int) + 1 = _; omega, by omega, Fr_wr hf1 (Or.inr rfl), x :: s, by show (s.length : Int) + 1 = ((s.length + 1 : Nat) : Int); omega, KMs_push k2 x, hl', e2⟩)))))
    · have s1 : Sh m := Sh_fr hs g.2 (fun c x w => by unfold WMm at w; unfold isP; omega)
      rw [p_79_46 s1, show cI 109 = 108 from rfl, n_108 s1]
      exact wI (by decide) (wI (by omega) (wS ⟨g.1, g.2⟩))
end MAY
