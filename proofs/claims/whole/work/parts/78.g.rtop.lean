/-! the reference's rule -/
def CMr (rl : List Int) (M : Mm) : Prop := mg M 79 38 = (rl.length : Int) ∧ ∀ i, i < rl.length → mg M 103 i = acV (rl.getD i 0) ∧ mg M 104 i = woV (rl.getD i 0)
def WRm (c x : Nat) : Prop := (c = 79 ∧ (x = 0 ∨ x = 29 ∨ (30 ≤ x ∧ x ≤ 36) ∨ x = 38 ∨ x = 41 ∨ x = 44 ∨ x = 47)) ∨ (103 ≤ c ∧ c ≤ 107)
section RTP
variable {n : Nat} {b : Nat → Int} {M : Mm}
theorem top_thm (ho : OKt n b) : RUNp n b (true, (0, tks n b 4 0 0), [], []) = match rlT n b with
    | .inl y => (.inl y, (rlR n b).2)
    | .inr e => (.inr e, []) := by
  have hO := O_thm ho 8 (by decide)
  rw [E_thm ho (Pg_O ho 8) hO (w := []) trivial rfl (Nat.zero_le _) (Nat.zero_le _)]
  have eR : ruE n b (ruO n b 8) (.inl (0, tks n b 4 0 0), []) = rlR n b := rfl
  rw [eR]
  cases hz : (rlR n b).1 with
  | inr e =>
    have : rlT n b = .inr e := by unfold rlT zEnd; rw [hz]; rfl
    unfold RELp
    rw [this, hz]
  | inl y =>
    obtain ⟨k1, k2, k3⟩ := E_k (y := (0, tks n b 4 0 0)) (l := []) ho (Pg_O ho 8) (Nat.zero_le _) (eR ▸ hz)
    have eT : rlT n b = if ckd n b 4 y.1 = -1 then .inl y else .inr (1, (tPl n b y.1 : Int)) := by unfold rlT zEnd; rw [hz]; rfl
    have e3 : RELp n b (rlR n b) [] = RUNp n b (false, y, (rlR n b).2, []) := by unfold RELp; rw [hz]
    rw [e3, RUN_B ho k3, eT]
    unfold pstB
    have e5 : ∀ l, stl 1 l [] = (l, []) := fun _ => rfl
    rw [if_neg k1, if_neg k2, e5]
    by_cases c41 : ckd n b 4 y.1 = 41
    · rw [if_pos c41, if_pos rfl, if_neg (by omega)]; rfl
    · rw [if_neg c41]
      by_cases c : ckd n b 4 y.1 = -1
      · rw [if_pos ⟨c, rfl⟩, if_pos c]; rfl
      · rw [if_neg (fun e => c e.1), if_neg c]; rfl
theorem m_copy {rl : List Int} (hs : Sh M) (h38 : mg M 79 38 = (rl.length : Int)) (hl : rl.length ≤ 800) (hr : ∀ i, i < rl.length → mg M 105 i = acV (rl.getD i 0) ∧ mg M 106 i = woV (rl.getD i 0)) : wp (loopN (l_Model_rule_41 80) FU (0, M)) (fun M' => CMr rl M' ∧ Fr (fun c x => c = 103 ∨ c = 104) M M') := by
  refine wp_loop (fun (j : Nat) (s : Int × Mm) => s.1 = (j : Int) ∧ j ≤ rl.length ∧ Fr (fun c x => c = 103 ∨ c = 104) M s.2 ∧ ∀ i, i < j → mg s.2 103 i = acV (rl.getD i 0) ∧ mg s.2 104 i = woV (rl.getD i 0)) rl.length (by omega) ⟨rfl, Nat.zero_le _, Fr_rf, fun i hi => by omega⟩ ?_
  rintro j ⟨z, m⟩ hj ⟨hz, hjl, hf, hi⟩
  have hz : z = (j : Int) := hz
  have hf : Fr (fun c x => c = 103 ∨ c = 104) M m := hf
  subst hz
  have s1 : Sh m := Sh_fr hs hf (fun c x w => by unfold isP; omega)
  unfold l_Model_rule_41
  simp only []
  rw [show cI 80 = 79 from rfl, hf.1 79 38 (by omega), h38]
  refine wC (fun c => wSr ⟨⟨?_, fun i hi2 => hi i (by omega)⟩, hf⟩) (fun c => ?_)
  · rw [hf.1 79 38 (by omega)]; exact h38
  · have hjr : j < rl.length := by omega
    rw [p_79_42 s1, show cI 106 = 105 from rfl, n_105 s1, p_79_39 s1, show cI 104 = 103 from rfl, n_103 s1, Int.toNat_natCast]
    refine wI (by decide) (wI (by omega) (wI (by decide) (wI (by omega) (wL ?_))))
    rw [hf.1 105 j (by omega), (hr j hjr).1]
    have s2 : Sh (mp m 103 j (acV (rl.getD j 0))) := Sh_mp s1 (by unfold isP; omega)
    rw [p_79_43 s2, show cI 107 = 106 from rfl, n_106 s2, p_79_40 s2, show cI 105 = 104 from rfl, n_104 s2, show mg (mp m 103 j (acV (rl.getD j 0))) 106 j = woV (rl.getD j 0) by rw [mg_mp_n (by omega), hf.1 106 j (by omega)]; exact (hr j hjr).2, w32_s (by omega) (by omega)]
    refine wI (by decide) (wI (by omega) (wI (by decide) (wI (by omega) (wL (wL (wSl ⟨hjr, by show (j : Int) + 1 = _; omega, by omega, Fr_wr (Fr_wr hf (by omega)) (by omega), fun i hi2 => ?_⟩))))))
    show mg (mp (mp m 103 j (acV (rl.getD j 0))) 104 j (woV (rl.getD j 0))) 103 i = _ ∧ mg (mp (mp m 103 j (acV (rl.getD j 0))) 104 j (woV (rl.getD j 0))) 104 i = _
    by_cases e : i = j
    · subst e
      rw [mg_mp_n (by omega), mg_mp_s, mg_mp_s]; exact ⟨rfl, rfl⟩
    · rw [mg_mp_n (by omega), mg_mp_n (by omega), mg_mp_n (by omega), mg_mp_n (by omega)]; exact hi i (by omega)
theorem m_rule (ho : OKt n b) (hs : Sh M) (ht : CMt n b M) {rl : List Int} (hr : CMr rl M) : wp (f_Model_rule M 80) (fun r => Fr WRm M r.2 ∧ mg r.2 79 29 = 0 ∧ match rlT n b with
    | .inl y => r.1 = (y.2 : Int) ∧ CMr (rlR n b).2 r.2 ∧ mg r.2 79 35 = 0 ∧ mg r.2 79 36 = -1
    | .inr e => r.1 = -1 ∧ CMr rl r.2 ∧ mg r.2 79 35 = e.1 ∧ mg r.2 79 36 = e.2) := by
  have hn := ho.1
  unfold f_Model_rule
  rw [show cI 80 = 79 from rfl]
  refine wL (wK (Q := fun t : Int × Mm => Fr (fun c x => Wru c x ∨ (c = 79 ∧ x = 0)) M t.2 ∧ FinQ n b t.2 (RUNp n b (true, (0, tks n b 4 0 0), [], [])) t) ?_ (fun t ht => ?_))
  · unfold f_Model_readRule
    rw [show cI 80 = 79 from rfl]
    refine wL (wL (wL (wL ?_)))
    have f0 : Fr (fun c x => c = 79 ∧ (x = 0 ∨ x = 30 ∨ x = 41 ∨ x = 44 ∨ x = 47)) M (mp (mp (mp (mp (mp M 79 0 0) 79 30 0) 79 41 0) 79 44 0) 79 47 0) := Fr_wr (Fr_wr (Fr_wr (Fr_wr (Fr_mp (by omega)) (by omega)) (by omega)) (by omega)) (by omega)
    have a30 : mg (mp (mp (mp (mp (mp M 79 0 0) 79 30 0) 79 41 0) 79 44 0) 79 47 0) 79 30 = ((0 : Nat) : Int) := by rw [mg_mp_n (by omega), mg_mp_n (by omega), mg_mp_n (by omega), mg_mp_s]; rfl
    have a41 : mg (mp (mp (mp (mp (mp M 79 0 0) 79 30 0) 79 41 0) 79 44 0) 79 47 0) 79 41 = 0 := by rw [mg_mp_n (by omega), mg_mp_n (by omega), mg_mp_s]
    have a44 : mg (mp (mp (mp (mp (mp M 79 0 0) 79 30 0) 79 41 0) 79 44 0) 79 47 0) 79 44 = 0 := by rw [mg_mp_n (by omega), mg_mp_s]
    have a47 : mg (mp (mp (mp (mp (mp M 79 0 0) 79 30 0) 79 41 0) 79 44 0) 79 47 0) 79 47 = 0 := by rw [mg_mp_s]
    generalize mp (mp (mp (mp (mp M 79 0 0) 79 30 0) 79 41 0) 79 44 0) 79 47 0 = m0 at *
    have T0 : TM n b m0 := TM_fr ⟨hs, ht⟩ f0 (fun c x w => by unfold isP; omega)
    refine wK (m_next (r := true) T0 ho (Nat.zero_le _) a30) (fun m1 g1 => ?_)
    have R1 : RM true n b 0 m1 := ⟨TM_lm T0 g1.1, Nat.zero_le _, g1.2⟩
    have f1 := g1.1
    have S1 : StP n b true (RUNp n b (true, (0, tks n b 4 0 0), [], [])) (0, tks n b 4 0 0) [] [] m1 := by
      refine ⟨⟨0, rfl, ⟨R1, ?_, ?_, fun i hi => absurd hi (Nat.not_lt_zero _), ?_, fun i hi => absurd hi (Nat.not_lt_zero _)⟩, Nat.zero_le _, Nat.zero_le _⟩, trivial, Nat.zero_le _, rfl⟩
      · rw [f1.1 _ _ (by unfold WLm; omega)]; exact a47
      · rw [f1.1 _ _ (by unfold WLm; omega)]; exact a41
      · rw [f1.1 _ _ (by unfold WLm; omega)]; exact a44
    refine wK (m_rrule ho S1) (fun t ht => wS ⟨?_, Fr_rf, ht.2⟩)
    exact Fr_tr (Fr_sub f0 (fun c x w => by unfold Wru; omega)) (Fr_sub (Fr_tr (Fr_sub f1 (fun c x w => WLm_u w)) ht.1) (fun c x w => Or.inl w))
  · obtain ⟨f, _, hF⟩ := ht
    rw [top_thm ho] at hF
    refine wL ?_
    have fa : Fr (fun c x => Wru c x ∨ (c = 79 ∧ (x = 0 ∨ x = 29))) M (mp t.2 79 29 0) := Fr_wr (Fr_sub f (fun c x w => by unfold Wru at w ⊢; omega)) (by omega)
    cases hτ : rlT n b with
    | inr e =>
      rw [hτ] at hF
      rcases hF with ⟨y, l, h1, _⟩ | ⟨e', h1, h2, h3⟩
      · cases h1
      · cases h1
        refine wE (by rw [h2]; decide) (wS ⟨Fr_sub fa (fun c x w => by unfold Wru at w; unfold WRm; omega), by rw [mg_mp_s], rfl, ⟨?_, fun i hi => ⟨?_, ?_⟩⟩, ?_, ?_⟩)
        · rw [fa.1 _ _ (by unfold Wru; omega)]; exact hr.1
        · rw [fa.1 _ _ (by unfold Wru; omega)]; exact (hr.2 i hi).1
        · rw [fa.1 _ _ (by unfold Wru; omega)]; exact (hr.2 i hi).2
        · rw [mg_mp_n (by omega)]; exact h3.2.1
        · rw [mg_mp_n (by omega)]; exact h3.2.2
    | inl y =>
      rw [hτ] at hF
      rcases hF with ⟨y', l, h1, h2, h3, h4⟩ | ⟨e', h1, _⟩
      · cases h1
        have p3 := MSr_p h3
        obtain ⟨c, hy, ⟨k1, k2, k3, k4, k5, k6⟩, hc, hcp⟩ := h3
        refine wI (by rw [h2]; decide) (wL (wL ?_))
        have e41 : mg (mp (mp (mp t.2 79 29 0) 79 35 0) 79 36 (-1)) 79 41 = ((rlR n b).2.length : Int) := by rw [mg_mp_n (by omega), mg_mp_n (by omega), mg_mp_n (by omega)]; exact k3
        rw [e41]
        have fz : Fr (fun c x => c = 79 ∧ (x = 29 ∨ x = 35 ∨ x = 36 ∨ x = 38)) t.2 (mp (mp (mp (mp t.2 79 29 0) 79 35 0) 79 36 (-1)) 79 38 ((rlR n b).2.length : Int)) := Fr_wr (Fr_wr (Fr_wr (Fr_mp (by omega)) (by omega)) (by omega)) (by omega)
        have z29 : mg (mp (mp (mp (mp t.2 79 29 0) 79 35 0) 79 36 (-1)) 79 38 ((rlR n b).2.length : Int)) 79 29 = 0 := by rw [mg_mp_n (by omega), mg_mp_n (by omega), mg_mp_n (by omega), mg_mp_s]
        have z35 : mg (mp (mp (mp (mp t.2 79 29 0) 79 35 0) 79 36 (-1)) 79 38 ((rlR n b).2.length : Int)) 79 35 = 0 := by rw [mg_mp_n (by omega), mg_mp_n (by omega), mg_mp_s]
        have z36 : mg (mp (mp (mp (mp t.2 79 29 0) 79 35 0) 79 36 (-1)) 79 38 ((rlR n b).2.length : Int)) 79 36 = -1 := by rw [mg_mp_n (by omega), mg_mp_s]
        have z38 : mg (mp (mp (mp (mp t.2 79 29 0) 79 35 0) 79 36 (-1)) 79 38 ((rlR n b).2.length : Int)) 79 38 = ((rlR n b).2.length : Int) := by rw [mg_mp_s]
        generalize mp (mp (mp (mp t.2 79 29 0) 79 35 0) 79 36 (-1)) 79 38 ((rlR n b).2.length : Int) = m3 at *
        have s3 : Sh m3 := Sh_fr k1.1.1 fz (fun c x w => by unfold isP; omega)
        have p30 : (rlR n b).2.length + 0 ≤ y.1 + 0 := p3.2.2
        refine wL (wK (m_copy (rl := (rlR n b).2) s3 z38 (by omega) (fun i hi => ?_)) (fun m4 g4 => wS ⟨?_, ?_, ?_, g4.1, ?_, ?_⟩))
        · rw [fz.1 _ _ (by omega), fz.1 _ _ (by omega)]; exact k4 i hi
        · exact Fr_tr (Fr_sub f (fun c x w => by unfold Wru at w; unfold WRm; omega)) (Fr_tr (Fr_sub fz (fun c x w => by unfold WRm; omega)) (Fr_sub g4.2 (fun c x w => by unfold WRm; omega)))
        · show mg m4 79 29 = 0
          rw [g4.2.1 _ _ (by omega)]; exact z29
        · show mg m4 79 47 = (y.2 : Int)
          rw [g4.2.1 _ _ (by omega), fz.1 _ _ (by omega), k2, hy]
          have : tks n b 4 y.1 c = c := by unfold tks; rw [if_pos ((ckd_m1 ho).mp h4)]
          rw [this]
        · show mg m4 79 35 = 0
          rw [g4.2.1 _ _ (by omega)]; exact z35
        · show mg m4 79 36 = -1
          rw [g4.2.1 _ _ (by omega)]; exact z36
      · cases h1
end RTP
