/-! the reference's small steps on THE RULE -/
def acV (v : Int) : Int := if v < 0 then -v else 0
def woV (v : Int) : Int := if v < 0 then 0 else v
def MR0 (n : Nat) (b : Nat → Int) (p c : Nat) (l w : List Int) (M : Mm) : Prop := RM true n b p M ∧ mg M 79 47 = (c : Int) ∧ mg M 79 41 = (l.length : Int) ∧ (∀ i, i < l.length → mg M 105 i = acV (l.getD i 0) ∧ mg M 106 i = woV (l.getD i 0)) ∧ mg M 79 44 = (w.length : Int) ∧ ∀ j, j < w.length → mg M 107 j = w.reverse.getD j 0
def MSr (n : Nat) (b : Nat → Int) (e : Nat) (y : Nat × Nat) (l w : List Int) (M : Mm) : Prop := ∃ c, y.2 = tks n b 4 y.1 c ∧ MR0 n b y.1 c l w M ∧ l.length + w.length ≤ c + e ∧ c ≤ y.1
def Wru (c x : Nat) : Prop := (c = 79 ∧ ((30 ≤ x ∧ x ≤ 36) ∨ x = 41 ∨ x = 44 ∨ x = 47)) ∨ c = 105 ∨ c = 106 ∨ c = 107
theorem WLm_u {c x : Nat} (h : WLm c x) : Wru c x := by unfold WLm at h; unfold Wru; omega
theorem WFl_u {c x : Nat} (h : WFl c x) : Wru c x := by unfold WFl at h; unfold Wru; omega
theorem Wru_p {c x : Nat} (h : Wru c x) : ¬ isP c x := by unfold Wru at h; unfold isP; omega
section RST
variable {n : Nat} {b : Nat → Int} {p c e : Nat} {y : Nat × Nat} {l w : List Int} {M : Mm}
theorem rv_len {x : Int} : (x :: w).reverse = w.reverse ++ [x] := List.reverse_cons
theorem rv_top {x : Int} : (x :: w).reverse.getD w.length 0 = x := by
  rw [rv_len, ← List.length_reverse (as := w)]; exact gd_last
theorem rv_old {x : Int} {j : Nat} (h : j < w.length) : (x :: w).reverse.getD j 0 = w.reverse.getD j 0 := by
  rw [rv_len]; exact gd_app (by rw [List.length_reverse]; exact h)
theorem RM_w {M' : Mm} (h : RM true n b p M) (f : Fr (fun c x => (c = 79 ∧ (x = 41 ∨ x = 44 ∨ x = 47)) ∨ c = 105 ∨ c = 106 ∨ c = 107) M M') : RM true n b p M' := RM_fr h f (fun c x w => by unfold isP; omega)
theorem m_does (h : MR0 n b p c l w M) (hl : l.length < 800) (v : Int) {a1 a2 : Int} (h1 : a1 = acV v) (h2 : a2 = woV v) : wp (f_Model_does M 80 a1 a2) (fun M' => MR0 n b p c (l ++ [v]) w M' ∧ Fr Wru M M') := by
  obtain ⟨k1, k2, k3, k4, k5, k6⟩ := h
  have hs := k1.1.1
  unfold f_Model_does
  rw [show cI 80 = 79 from rfl, p_79_42 hs, show cI 106 = 105 from rfl, n_105 hs, k3, Int.toNat_natCast]
  refine wI (by decide) (wI (by omega) (wL ?_))
  have s1 : Sh (mp M 105 l.length a1) := Sh_mp hs (by unfold isP; omega)
  rw [p_79_43 s1, show cI 107 = 106 from rfl, n_106 s1, show mg (mp M 105 l.length a1) 79 41 = (l.length : Int) by rw [mg_mp_n (by omega)]; exact k3, Int.toNat_natCast]
  refine wI (by decide) (wI (by omega) (wL ?_))
  rw [show mg (mp (mp M 105 l.length a1) 106 l.length a2) 79 41 = (l.length : Int) by rw [mg_mp_n (by omega), mg_mp_n (by omega)]; exact k3, w32_s (by omega) (by omega)]
  have f : Fr (fun c x => (c = 79 ∧ (x = 41 ∨ x = 44 ∨ x = 47)) ∨ c = 105 ∨ c = 106 ∨ c = 107) M (mp (mp (mp M 105 l.length a1) 106 l.length a2) 79 41 ((l.length : Int) + 1)) := Fr_wr (Fr_wr (Fr_mp (by omega)) (by omega)) (by omega)
  refine wL (wS ⟨⟨RM_w k1 f, ?_, ?_, fun i hi => ?_, ?_, fun j hj => ?_⟩, Fr_sub f (fun c x w => by unfold Wru; omega)⟩)
  · rw [mg_mp_n (by omega), mg_mp_n (by omega), mg_mp_n (by omega)]; exact k2
  · rw [mg_mp_s, len_app]; omega
  · rw [len_app] at hi
    by_cases ei : i = l.length
    · subst ei
      rw [gd_last, mg_mp_n (by omega), mg_mp_n (by omega), mg_mp_s, mg_mp_n (by omega), mg_mp_s]; exact ⟨h1, h2⟩
    · rw [gd_app (by omega), mg_mp_n (by omega), mg_mp_n (by omega), mg_mp_n (by omega), mg_mp_n (by omega), mg_mp_n (by omega), mg_mp_n (by omega)]; exact k4 i (by omega)
  · rw [mg_mp_n (by omega), mg_mp_n (by omega), mg_mp_n (by omega)]; exact k5
  · rw [mg_mp_n (by omega), mg_mp_n (by omega), mg_mp_n (by omega)]; exact k6 j hj
theorem m_rank (x : Int) : f_Model_rank M 80 x = some (rk x) := by
  unfold f_Model_rank rk
  by_cases c1 : x = 124
  · rw [if_neg (by omega), if_pos c1]
  · rw [if_pos c1, if_neg c1]
    by_cases c2 : x = 38
    · rw [if_neg (by omega), if_pos c2]
    · rw [if_pos c2, if_neg c2]
      by_cases c3 : x = 60
      · rw [if_pos c3, if_pos (Or.inl c3)]
      · rw [if_neg c3]
        by_cases c4 : x = 61
        · rw [if_pos c4, if_pos (Or.inr (Or.inl c4))]
        · rw [if_neg c4]
          by_cases c5 : x = 62
          · rw [if_neg (by omega), if_pos (Or.inr (Or.inr c5))]
          · rw [if_pos c5, if_neg (show ¬ (x = 60 ∨ x = 61 ∨ x = 62) by omega)]
            by_cases c6 : x = 43
            · rw [if_pos c6, if_pos (Or.inl c6)]
            · rw [if_neg c6]
              by_cases c7 : x = 45
              · rw [if_neg (by omega), if_pos (Or.inr c7)]
              · rw [if_pos c7, if_neg (by omega)]
theorem MR0_pop {x : Int} (h : MR0 n b p c l (x :: w) M) : MR0 n b p c l w (mp M 79 44 (w.length : Int)) := by
  obtain ⟨k1, k2, k3, k4, k5, k6⟩ := h
  have f : Fr (fun c x => (c = 79 ∧ (x = 41 ∨ x = 44 ∨ x = 47)) ∨ c = 105 ∨ c = 106 ∨ c = 107) M (mp M 79 44 (w.length : Int)) := Fr_mp (by omega)
  refine ⟨RM_w k1 f, ?_, ?_, fun i hi => ?_, ?_, fun j hj => ?_⟩
  · rw [mg_mp_n (by omega)]; exact k2
  · rw [mg_mp_n (by omega)]; exact k3
  · rw [mg_mp_n (by omega), mg_mp_n (by omega)]; exact k4 i hi
  · rw [mg_mp_s]
  · rw [mg_mp_n (by omega), k6 j (Nat.lt_succ_of_lt hj)]; exact rv_old hj
theorem m_stl {r : Int} (hr : 1 ≤ r) (h : MR0 n b p c l w M) (hc : l.length + w.length ≤ 800) (hs0 : ∀ x ∈ w, 0 ≤ x) (h64 : w.length ≤ 64) : wp (f_Model_settles M 80 r) (fun M' => MR0 n b p c (stl r l w).1 (stl r l w).2 M' ∧ Fr Wru M M') := by
  unfold f_Model_settles
  refine wK (wp_loop (Q := fun M' => MR0 n b p c (stl r l w).1 (stl r l w).2 M' ∧ Fr Wru M M') (fun j s => Fr Wru M s ∧ ∃ l' w', MR0 n b p c l' w' s ∧ stl r l w = stl r l' w' ∧ w'.length + j = w.length ∧ l'.length + w'.length = l.length + w.length ∧ (∀ x ∈ w', 0 ≤ x)) w.length (by omega) ⟨Fr_rf, l, w, h, rfl, by omega, rfl, hs0⟩ ?_) (fun t ht => wS ht)
  rintro j s hj ⟨hf, l', w', h1, hq, hl1, hl2, hs1⟩
  unfold l_Model_settles_0
  have hs := h1.1.1.1
  have hc0 := h1.2.2.2.2.1
  rw [show cI 80 = 79 from rfl, hc0]
  cases w' with
  | nil =>
    refine wI (by show (((([] : List Int).length) : Nat) : Int) ≤ 0; decide) (wSr ?_)
    rw [hq]; exact ⟨h1, hf⟩
  | cons x w' =>
    have hl : (x :: w').length = w'.length + 1 := rfl
    rw [hl] at hl1 hl2 hc0 ⊢
    have ex : mg s 107 w'.length = x := (h1.2.2.2.2.2 w'.length (by rw [hl]; omega)).trans rv_top
    have hx0 : 0 ≤ x := hs1 x (List.mem_cons_self ..)
    rw [p_79_45 hs, show cI 108 = 107 from rfl, n_107 hs, w32_s (x := ((w'.length + 1 : Nat) : Int) - 1) (by omega) (by omega), show (((w'.length + 1 : Nat) : Int) - 1).toNat = w'.length by omega, ex]
    rw [stl_c] at hq
    have go : stl r l w = stl r (l' ++ [-x]) w' → 0 < x → wp (j_Model_settles_66_0 s 80 r) (Sum.elim (fun s' => j < w.length ∧ Fr Wru M s' ∧ ∃ l' w', MR0 n b p c l' w' s' ∧ stl r l w = stl r l' w' ∧ w'.length + (j + 1) = w.length ∧ l'.length + w'.length = l.length + w.length ∧ (∀ x ∈ w', 0 ≤ x)) (fun M' => MR0 n b p c (stl r l w).1 (stl r l w).2 M' ∧ Fr Wru M M')) := fun e hx => by
      unfold j_Model_settles_66_0
      rw [show cI 80 = 79 from rfl, hc0, w32_s (by omega) (by omega), show ((w'.length + 1 : Nat) : Int) - 1 = (w'.length : Int) by omega]
      refine wL ?_
      have hpop := MR0_pop h1
      have s1 := hpop.1.1.1
      have f1 : Fr Wru s (mp s 79 44 (w'.length : Int)) := Fr_mp (by unfold Wru; omega)
      have ex2 : mg (mp s 79 44 (w'.length : Int)) 107 w'.length = x := by rw [mg_mp_n (by omega)]; exact ex
      rw [p_79_45 s1, show cI 108 = 107 from rfl, n_107 s1, show mg (mp s 79 44 (w'.length : Int)) 79 44 = (w'.length : Int) by rw [mg_mp_s], Int.toNat_natCast, ex2]
      have a1 : x = acV (-x) := by unfold acV; rw [if_pos (by omega)]; omega
      have a2 : 0 = woV (-x) := by unfold woV; rw [if_pos (by omega)]
      refine wI (by decide) (wI (by omega) (wK (m_does hpop (by omega) (-x) a1 a2) (fun m2 g2 => wSl ⟨by omega, Fr_tr hf (Fr_tr f1 g2.2), _, _, g2.1, e, by omega, by rw [len_app]; omega, fun z hz => hs1 z (List.mem_cons_of_mem _ hz)⟩)))
    refine wE (by omega) (wI (by decide) (wI (by omega) ?_))
    by_cases c1 : x = 40
    · rw [if_pos c1] at hq
      refine wI c1 (wSr ?_)
      rw [hq]; exact ⟨h1, hf⟩
    · rw [if_neg c1] at hq
      refine wE c1 ?_
      by_cases c2 : x = 33
      · rw [if_pos c2] at hq
        refine wE (by omega) (wC (fun c3 => wSr ?_) (fun c3 => ?_))
        · rw [if_pos c3] at hq
          rw [hq]; exact ⟨h1, hf⟩
        · rw [if_neg c3] at hq
          exact go (by rw [hq, c2]) (by omega)
      · rw [if_neg c2] at hq
        refine wI c2 ?_
        rw [m_rank, Option.bind_some]
        refine wC (fun c3 => wSr ?_) (fun c3 => ?_)
        · rw [if_pos c3] at hq
          rw [hq]; exact ⟨h1, hf⟩
        · rw [if_neg c3] at hq
          refine go hq ?_
          rcases Int.lt_or_eq_of_le hx0 with h | h
          · exact h
          · exact absurd (by rw [← h]; show (0 : Int) < r; omega) c3
theorem MR0_push (h : MR0 n b p c l w M) (x : Int) : MR0 n b p c l (x :: w) (mp (mp M 107 w.length x) 79 44 ((w.length : Int) + 1)) ∧ Fr Wru M (mp (mp M 107 w.length x) 79 44 ((w.length : Int) + 1)) := by
  obtain ⟨k1, k2, k3, k4, k5, k6⟩ := h
  have f : Fr (fun c x => (c = 79 ∧ (x = 41 ∨ x = 44 ∨ x = 47)) ∨ c = 105 ∨ c = 106 ∨ c = 107) M (mp (mp M 107 w.length x) 79 44 ((w.length : Int) + 1)) := Fr_wr (Fr_mp (by omega)) (by omega)
  refine ⟨⟨RM_w k1 f, ?_, ?_, fun i hi => ?_, ?_, fun j hj => ?_⟩, Fr_sub f (fun c x w => by unfold Wru; omega)⟩
  · rw [mg_mp_n (by omega), mg_mp_n (by omega)]; exact k2
  · rw [mg_mp_n (by omega), mg_mp_n (by omega)]; exact k3
  · rw [mg_mp_n (by omega), mg_mp_n (by omega), mg_mp_n (by omega), mg_mp_n (by omega)]; exact k4 i hi
  · rw [mg_mp_s]; show _ = ((w.length + 1 : Nat) : Int); omega
  · have hj : j < w.length + 1 := hj
    rw [mg_mp_n (by omega)]
    by_cases ej : j = w.length
    · rw [ej, mg_mp_s, rv_top]
    · rw [mg_mp_n (by omega), rv_old (by omega)]; exact k6 j (by omega)
theorem m_stp (ho : OKt n b) (h : MSr n b (e + 1) y l w M) (hk : ckd n b 4 y.1 ≠ -1) : wp (f_Model_step M 80) (fun M' => MSr n b e (adY n b y) l w M' ∧ Fr Wru M M') := by
  obtain ⟨c, hy, ⟨k1, k2, k3, k4, k5, k6⟩, hc, hcp⟩ := h
  have hT : tTg n b 4 y.1 ≠ 0 := fun e => hk ((ckd_m1 ho).mpr e)
  have hp := k1.2.1
  have ay := adY_p ho hp hk
  have hn := ho.1
  unfold f_Model_step
  rw [show cI 80 = 79 from rfl, k2, w32_s (by omega) (by omega)]
  have f1 : Fr (fun c x => (c = 79 ∧ (x = 41 ∨ x = 44 ∨ x = 47)) ∨ c = 105 ∨ c = 106 ∨ c = 107) M (mp M 79 47 ((c : Int) + 1)) := Fr_mp (by omega)
  refine wL (wK (n_next ho (RM_w k1 f1) rfl) (fun m2 g2 => wS ⟨⟨c + 1, ?_, ⟨g2.1, ?_, ?_, fun i hi => ?_, ?_, fun j hj => ?_⟩, by omega, by omega⟩, Fr_tr (Fr_sub f1 (fun c x w => by unfold Wru; omega)) (Fr_sub g2.2 (fun c x w => WLm_u w))⟩))
  · show tks n b 4 (tEn n b y.1) y.2 = tks n b 4 (tEn n b y.1) (c + 1)
    rw [hy]
    have : tks n b 4 y.1 c = c + 1 := by unfold tks; rw [if_neg hT]
    rw [this]
  · rw [g2.2.1 _ _ (by unfold WLm; omega), mg_mp_s]; omega
  · rw [g2.2.1 _ _ (by unfold WLm; omega), mg_mp_n (by omega)]; exact k3
  · rw [g2.2.1 _ _ (by unfold WLm; omega), mg_mp_n (by omega), g2.2.1 _ _ (by unfold WLm; omega), mg_mp_n (by omega)]; exact k4 i hi
  · rw [g2.2.1 _ _ (by unfold WLm; omega), mg_mp_n (by omega)]; exact k5
  · rw [g2.2.1 _ _ (by unfold WLm; omega), mg_mp_n (by omega)]; exact k6 j hj
theorem MSr_p (h : MSr n b e y l w M) : y.1 ≤ n ∧ RM true n b y.1 M ∧ l.length + w.length ≤ y.1 + e := by
  obtain ⟨c, hy, k, hc, hcp⟩ := h
  exact ⟨k.1.2.1, k.1, by omega⟩
theorem m_stlS (ho : OKt n b) {r : Int} (hr : 1 ≤ r) (h : MSr n b 0 y l w M) (hs0 : ∀ x ∈ w, 0 ≤ x) (h64 : w.length ≤ 64) : wp (f_Model_settles M 80 r) (fun M' => MSr n b 0 y (stl r l w).1 (stl r l w).2 M' ∧ Fr Wru M M') := by
  have hp := MSr_p h
  have hn := ho.1
  obtain ⟨c, hy, k, hc, hcp⟩ := h
  refine wM (m_stl hr k (by omega) hs0 h64) (fun M' g => ⟨⟨c, hy, g.1, ?_, hcp⟩, g.2⟩)
  have sum : ∀ (w l : List Int), (stl r l w).1.length + (stl r l w).2.length = l.length + w.length := by
    intro w
    induction w with
    | nil => intro l; rfl
    | cons x w ih =>
      intro l
      rw [stl_c]
      split
      · rfl
      · split
        · split
          · rfl
          · rw [ih, len_app]; show _ = l.length + (w.length + 1); omega
        · split
          · rfl
          · rw [ih, len_app]; show _ = l.length + (w.length + 1); omega
  rw [sum]; exact hc
theorem m_pushS (h : MSr n b 0 y l w M) (x : Int) : MSr n b 1 y l (x :: w) (mp (mp M 107 w.length x) 79 44 ((w.length : Int) + 1)) ∧ Fr Wru M (mp (mp M 107 w.length x) 79 44 ((w.length : Int) + 1)) := by
  obtain ⟨c, hy, k, hc, hcp⟩ := h
  have := MR0_push k x
  exact ⟨⟨c, hy, this.1, by show l.length + (w.length + 1) ≤ c + 1; omega, hcp⟩, this.2⟩
theorem dv_nn {b : Nat → Int} {p : Nat} : ∀ j, (∀ i, i < j → isDg (b (p + i)) = true) → 0 ≤ dvB b p j
  | 0, _ => by show (0 : Int) ≤ 0; decide
  | j + 1, h => by
    have i1 := dv_nn j (fun i hi => h i (by omega))
    have h2 := h j (by omega)
    unfold isDg at h2
    rw [Bool.and_eq_true, decide_eq_true_iff, decide_eq_true_iff] at h2
    show 0 ≤ dvB b p j * 10 + (b (p + j) - 48)
    omega
theorem tVl_nn (ho : OKt n b) (h : tTg n b 4 p = 3) : 0 ≤ tVl n b p := by
  obtain ⟨h1, h2, h3, h4, h5⟩ := t_3 ho.1 h
  unfold tVl
  refine dv_nn _ (fun i hi => ?_)
  rw [h4] at hi
  exact (sc_all (P := isDg) (p := tPl n b p) ho.1 (by omega) (by omega)).2
theorem mTk_2t : mTk true n b p = 2 ↔ tTg n b 4 p = 2 ∧ mW true (tLs n b p) = true := by
  have h4 := tTg_le (n := n) (b := b) (dg := 4) (p := p)
  unfold mTk mD
  simp only [if_true]
  constructor
  · intro e
    split at e
    · omega
    · split at e
      · omega
      · split at e
        · rename_i h2
          split at e
          · rename_i h3; exact ⟨h2, h3⟩
          · omega
        · split at e
          · omega
          · split at e <;> omega
  · rintro ⟨e1, e2⟩; rw [e1, e2]; rfl
theorem m_val (ho : OKt n b) (h : MSr n b 0 y l w M) : wp (f_Model_value M 80) (fun t => Fr Wru M t.2 ∧ ((∃ v, ruV n b (.inl y, l) = (.inl (adY n b y), l ++ [v]) ∧ t.1 = 1 ∧ MSr n b 1 y (l ++ [v]) w t.2 ∧ ckd n b 4 y.1 ≠ -1) ∨ (∃ e, (ruV n b (.inl y, l)).1 = .inr e ∧ t.1 = 0 ∧ FM n b e t.2))) := by
  have hp := MSr_p h
  have hn := ho.1
  obtain ⟨c, hy, k, hc, hcp⟩ := h
  have hR := k.1
  have hlt : ckd n b 4 y.1 ≠ -1 → l.length < 800 := fun hk => by
    have := adY_p ho hp.1 hk
    omega
  have good : ∀ v a1 a2, ckd n b 4 y.1 ≠ -1 → ruV n b (.inl y, l) = ruA n b (ruW v (.inl y, l)) → a1 = acV v → a2 = woV v → wp ((f_Model_does M 80 a1 a2).bind (fun p => some ((1 : Int), p))) (fun t => Fr Wru M t.2 ∧ ((∃ v, ruV n b (.inl y, l) = (.inl (adY n b y), l ++ [v]) ∧ t.1 = 1 ∧ MSr n b 1 y (l ++ [v]) w t.2 ∧ ckd n b 4 y.1 ≠ -1) ∨ (∃ e, (ruV n b (.inl y, l)).1 = .inr e ∧ t.1 = 0 ∧ FM n b e t.2))) := fun v a1 a2 hk e h1 h2 => by
    refine wK (m_does k (hlt hk) v h1 h2) (fun m1 g1 => wS ⟨g1.2, Or.inl ⟨v, ?_, rfl, ⟨c, hy, g1.1, by rw [len_app]; omega, hcp⟩, hk⟩⟩)
    rw [e, ruW_lt (hlt hk)]; rfl
  unfold f_Model_value j_Model_value_128
  rw [show cI 80 = 79 from rfl, show mg M 79 32 = mTk true n b y.1 from hR.2.2.2.2.1]
  by_cases c4 : mTk true n b y.1 = 4
  · have t3 := mTk_4.mp c4
    have t3 : tTg n b 4 y.1 = 3 := t3
    have ck := (ckd_m2 ho).mpr t3
    rw [if_neg (fun e => e c4), show mg M 79 33 = tVl n b y.1 from hR.2.2.2.2.2.2.1 t3]
    have nn := tVl_nn ho t3
    refine good (tVl n b y.1) _ _ (by rw [ck]; decide) ?_ (by unfold acV; rw [if_neg (by omega)]) (by unfold woV; rw [if_neg (by omega)])
    unfold ruV
    rw [if_pos (show zK n b 4 (.inl y, l).1 = -2 from ck)]; rfl
  · rw [if_pos c4]
    have nk : zK n b 4 (.inl y : Ts) ≠ -2 := fun e => c4 (mTk_4.mpr ((ckd_m2 ho).mp e))
    by_cases c2 : mTk true n b y.1 = 2
    · rw [if_neg (fun e => e c2)]
      obtain ⟨t2, mw⟩ := mTk_2t.mp c2
      have okn := (t_2 ho.1 t2).2.2.2.2
      have ck := (ckd_m3 ho).mpr t2
      have zw : ∀ v, zW n b 4 (txs v) (.inl y : Ts) = decide (tLs n b y.1 = txs v) := fun v => by show (decide (tTg n b 4 y.1 = 2) && _) = _; rw [decide_eq_true t2]; rfl
      rw [show mg M 79 34 = c8 (tLs n b y.1) from hR.2.2.2.2.2.1 t2, m_w4, m_w5, m_w6, m_w7, Option.bind_some, Option.bind_some, Option.bind_some, Option.bind_some]
      have un : ruV n b (.inl y, l) = ruA n b (if decide (tLs n b y.1 = txs 4) = true then ruW (-1) (.inl y, l) else if decide (tLs n b y.1 = txs 5) = true then ruW (-2) (.inl y, l) else if decide (tLs n b y.1 = txs 6) = true then ruW (-3) (.inl y, l) else if decide (tLs n b y.1 = txs 7) = true then ruW (-4) (.inl y, l) else if decide (tLs n b y.1 = txs 8) = true then ruW (-5) (.inl y, l) else ruF n b 1 (.inl y, l)) := by
        unfold ruV
        rw [if_neg nk, zw, zw, zw, zw, zw]
      by_cases d4 : tLs n b y.1 = txs 4
      · rw [if_neg (fun e => e (by rw [d4]))]
        exact good (-1) _ _ (by rw [ck]; decide) (by rw [un, if_pos (decide_eq_true d4)]) (by decide) (by decide)
      · rw [if_pos (fun e => d4 ((c8_eq okn 4).mp e))]
        by_cases d5 : tLs n b y.1 = txs 5
        · rw [if_neg (fun e => e (by rw [d5]))]
          exact good (-2) _ _ (by rw [ck]; decide) (by rw [un, if_neg (by rw [decide_eq_false d4]; decide), if_pos (decide_eq_true d5)]) (by decide) (by decide)
        · rw [if_pos (fun e => d5 ((c8_eq okn 5).mp e))]
          by_cases d6 : tLs n b y.1 = txs 6
          · rw [if_neg (fun e => e (by rw [d6]))]
            exact good (-3) _ _ (by rw [ck]; decide) (by rw [un, if_neg (by rw [decide_eq_false d4]; decide), if_neg (by rw [decide_eq_false d5]; decide), if_pos (decide_eq_true d6)]) (by decide) (by decide)
          · rw [if_pos (fun e => d6 ((c8_eq okn 6).mp e))]
            by_cases d7 : tLs n b y.1 = txs 7
            · rw [if_neg (fun e => e (by rw [d7]))]
              exact good (-4) _ _ (by rw [ck]; decide) (by rw [un, if_neg (by rw [decide_eq_false d4]; decide), if_neg (by rw [decide_eq_false d5]; decide), if_neg (by rw [decide_eq_false d6]; decide), if_pos (decide_eq_true d7)]) (by decide) (by decide)
            · rw [if_pos (fun e => d7 ((c8_eq okn 7).mp e))]
              have d8 : tLs n b y.1 = txs 8 := by
                have mw : decide (tLs n b y.1 = txs 4 ∨ tLs n b y.1 = txs 5 ∨ tLs n b y.1 = txs 6 ∨ tLs n b y.1 = txs 7 ∨ tLs n b y.1 = txs 8) = true := mw
                rw [decide_eq_true_iff] at mw
                rcases mw with h | h | h | h | h
                · exact absurd h d4
                · exact absurd h d5
                · exact absurd h d6
                · exact absurd h d7
                · exact h
              exact good (-5) _ _ (by rw [ck]; decide) (by rw [un, if_neg (by rw [decide_eq_false d4]; decide), if_neg (by rw [decide_eq_false d5]; decide), if_neg (by rw [decide_eq_false d6]; decide), if_neg (by rw [decide_eq_false d7]; decide), if_pos (decide_eq_true d8)]) (by decide) (by decide)
    · rw [if_pos c2, n_fails hR, Option.bind_some]
      refine wS ⟨Fr_sub fl_fr (fun c x w => WFl_u w), Or.inr ⟨(1, (tPl n b y.1 : Int)), ?_, rfl, fl_ok hR.1⟩⟩
      have nw : ∀ v, (v = 4 ∨ v = 5 ∨ v = 6 ∨ v = 7 ∨ v = 8) → zW n b 4 (txs v) (.inl y : Ts) = false := fun v hv => by
        show (decide (tTg n b 4 y.1 = 2) && decide (tLs n b y.1 = txs v)) = false
        by_cases t2 : tTg n b 4 y.1 = 2
        · by_cases e : tLs n b y.1 = txs v
          · refine absurd (mTk_2t.mpr ⟨t2, ?_⟩) c2
            rw [e]
            rcases hv with rfl | rfl | rfl | rfl | rfl <;> decide
          · rw [decide_eq_false e, Bool.and_false]
        · rw [decide_eq_false t2, Bool.false_and]
      unfold ruV
      rw [if_neg nk, nw 4 (by omega), nw 5 (by omega), nw 6 (by omega), nw 7 (by omega), nw 8 (by omega), if_neg (by decide), if_neg (by decide), if_neg (by decide), if_neg (by decide), if_neg (by decide)]
      rfl
end RST
