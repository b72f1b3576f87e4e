/-! the reference reads a comparison -/
def ruK0 (n : Nat) (b : Nat → Int) (q : Rs) : Rs := ruW (-(zK n b 4 q.1)) (ruS n b (ruA n b (ruC1 n b q)))
def pwq (s : Int) (q : Rs) : Rs := if s = 0 then q else ruW (-s) q
def pwl (s : Int) (l : List Int) : List Int := if s = 0 then l else l ++ [-s]
def pww (s : Int) (w : List Int) : List Int := if s = 0 then w else s :: w
section RSM
variable {n : Nat} {b : Nat → Int} {p c e : Nat} {y : Nat × Nat} {l w : List Int} {M : Mm}
theorem n_sgT (h : RM true n b p M) {s : Int} (hs : mSg true s = true) (hs0 : 0 ≤ s) : f_Model_isSign M 80 s = some (if ckd n b 4 p = s then 1 else 0) := n_isSign (tk := 0) h hs hs0
theorem n_by (h : RM true n b p M) {x : Int} (hx : 0 ≤ x) (hk : ckd n b 4 p = x) : mg M 79 33 = x := by
  obtain ⟨t4, e⟩ := (ckd_by hx).mp hk
  exact (h.2.2.2.2.2.2.2 t4).trans e
theorem stl_pw {r s : Int} (hr : r ≤ 4) (hs : s = 0 ∨ s = 43 ∨ s = 45) : stl r l (pww s w) = stl r (pwl s l) w := by
  rcases hs with rfl | rfl | rfl
  · rfl
  · show stl r l (43 :: w) = stl r (l ++ [-43]) w
    rw [stl_c, if_neg (by decide), if_neg (by decide), if_neg (by show ¬ (4 : Int) < r; omega)]
  · show stl r l (45 :: w) = stl r (l ++ [-45]) w
    rw [stl_c, if_neg (by decide), if_neg (by decide), if_neg (by show ¬ (4 : Int) < r; omega)]
theorem m_ps (ho : OKt n b) (h : MSr n b 0 y l w M) (h64 : w.length < 64) {x : Int} (hx : 0 ≤ x) (hk : ckd n b 4 y.1 = x) {z : Int} : wp (j_Model_readSums_105_2 M 80 z) (fun t => ∃ m, t = .inl (z, m) ∧ MSr n b 0 (adY n b y) l (x :: w) m ∧ Fr Wru M m) := by
  have hp := MSr_p h
  have hs := hp.2.1.1.1
  have e44 : mg M 79 44 = (w.length : Int) := by obtain ⟨c, _, k, _⟩ := h; exact k.2.2.2.2.1
  have pu := m_pushS h x
  unfold j_Model_readSums_105_2
  rw [show cI 80 = 79 from rfl, p_79_45 hs, show cI 108 = 107 from rfl, n_107 hs, e44, Int.toNat_natCast, n_by hp.2.1 hx hk]
  refine wI (by decide) (wI (by omega) (wL ?_))
  rw [show mg (mp M 107 w.length x) 79 44 = (w.length : Int) by rw [mg_mp_n (by omega)]; exact e44, w32_s (by omega) (by omega)]
  exact wL (wK (m_stp ho pu.1 (by omega)) (fun m2 g2 => wS ⟨m2, rfl, g2.1, Fr_tr pu.2 g2.2⟩))
def PhS (n : Nat) (b : Nat → Int) (w : List Int) (z : Int) (w0 : List Int) (KK : Rs → Rs) : Prop := (z = 0 ∧ w0 = w ∧ KK = ruK0 n b) ∨ (z = 1 ∧ ∃ cs, (cs = 60 ∨ cs = 61 ∨ cs = 62) ∧ w0 = cs :: w ∧ KK = ruW (-cs))
def SumQ (n : Nat) (b : Nat → Int) (w : List Int) (M : Mm) (fin : Rs) (t : (Int × Mm) ⊕ (Int × Mm)) : Prop := (∃ e m, t = .inl (0, m) ∧ fin.1 = .inr e ∧ FM n b e m ∧ Fr Wru M m) ∨ (∃ z m y2 l1 s w0 KK, t = .inr (z, m) ∧ Fr Wru M m ∧ MSr n b 0 y2 l1 (pww s w0) m ∧ (s = 0 ∨ s = 43 ∨ s = 45) ∧ fin = KK (.inl y2, pwl s l1) ∧ PhS n b w z w0 KK ∧ (z = 0 → ckd n b 4 y2.1 ≠ 60 ∧ ckd n b 4 y2.1 ≠ 61 ∧ ckd n b 4 y2.1 ≠ 62))
theorem Ph_inr {z : Int} {w0 : List Int} {KK : Rs → Rs} (h : PhS n b w z w0 KK) {q : Rs} (hq : ¬ isI q.1) : (KK q).1 = q.1 := by
  rcases h with ⟨_, _, rfl⟩ | ⟨_, cs, _, _, rfl⟩
  · exact ruC_tail hq
  · rfl
theorem Ph_4 {z : Int} {w0 : List Int} {KK : Rs → Rs} (h : PhS n b w z w0 KK) (hw4 : ∀ l, stl 4 l w = (l, w)) (l : List Int) : stl 4 l w0 = (l, w0) := by
  rcases h with ⟨_, rfl, _⟩ | ⟨_, cs, hc, rfl, _⟩
  · exact hw4 l
  · rcases hc with rfl | rfl | rfl <;> rfl
theorem Ph_w {z : Int} {w0 : List Int} {KK : Rs → Rs} (h : PhS n b w z w0 KK) (hs0 : ∀ x ∈ w, 0 ≤ x) (h64 : w.length ≤ 60) : (∀ x ∈ w0, 0 ≤ x) ∧ w0.length ≤ 61 := by
  rcases h with ⟨_, rfl, _⟩ | ⟨_, cs, hc, rfl, _⟩
  · exact ⟨hs0, by omega⟩
  · refine ⟨fun x hx => ?_, by show w.length + 1 ≤ 61; omega⟩
    rcases List.mem_cons.mp hx with e | e
    · rw [e]; omega
    · exact hs0 x e
theorem pww_w {s : Int} {w0 : List Int} (hs : s = 0 ∨ s = 43 ∨ s = 45) (h : (∀ x ∈ w0, 0 ≤ x) ∧ w0.length ≤ 61) : (∀ x ∈ pww s w0, 0 ≤ x) ∧ (pww s w0).length ≤ 64 := by
  unfold pww
  by_cases c : s = 0
  · rw [if_pos c]; exact ⟨h.1, by omega⟩
  · rw [if_neg c]
    refine ⟨fun x hx => ?_, by show w0.length + 1 ≤ 64; omega⟩
    rcases List.mem_cons.mp hx with e | e
    · rw [e]; omega
    · exact h.1 x e
theorem m_sumL (ho : OKt n b) (h : MSr n b 0 y l w M) (hw4 : ∀ l, stl 4 l w = (l, w)) (hs0 : ∀ x ∈ w, 0 ≤ x) (h64 : w.length ≤ 60) : wp (loopN (l_Model_readSums_2 80) FU (0, M)) (SumQ n b w M (ruC n b (.inl y, l))) := by
  obtain ⟨fin, hfin⟩ : ∃ fin, fin = ruC n b (.inl y, l) := ⟨_, rfl⟩
  rw [← hfin]
  have hn := ho.1
  refine wp_loop (fun (j : Nat) (s : Int × Mm) => Fr Wru M s.2 ∧ ∃ y' l' sg f w0 KK, MSr n b 0 y' l' (pww sg w0) s.2 ∧ j ≤ y'.1 ∧ n ≤ f + y'.1 ∧ (sg = 0 ∨ sg = 43 ∨ sg = 45) ∧ fin = KK (ruSl n b f (pwq sg (ruV n b (.inl y', l')))) ∧ PhS n b w s.1 w0 KK) n (by omega) ⟨Fr_rf, y, l, 0, 800, w, ruK0 n b, h, Nat.zero_le _, by omega, Or.inl rfl, hfin, Or.inl ⟨rfl, rfl, rfl⟩⟩ ?_
  rintro j ⟨z, m⟩ hj ⟨hf, y', l', sg, f, w0, KK, h1, hjy, hfu, hsg, hq, hph⟩
  have hf : Fr Wru M m := hf
  have h1 : MSr n b 0 y' l' (pww sg w0) m := h1
  have hph : PhS n b w z w0 KK := hph
  unfold l_Model_readSums_2
  simp only []
  refine wK (m_val ho h1) (fun t ht => ?_)
  obtain ⟨f1, ht⟩ := ht
  rcases ht with ⟨v, hv, ht1, h2, hk⟩ | ⟨e, hv, ht1, h2⟩
  · refine wI (by rw [ht1]; decide) (wK (m_stp ho h2 hk) (fun m3 g3 => ?_))
    obtain ⟨h3, f3⟩ := g3
    have F3 := Fr_tr hf (Fr_tr f1 f3)
    have ay := adY_p ho (MSr_p h1).1 hk
    obtain ⟨y2, ey2⟩ : ∃ y2, y2 = adY n b y' := ⟨_, rfl⟩
    obtain ⟨l1, el1⟩ : ∃ l1, l1 = l' ++ [v] := ⟨_, rfl⟩
    rw [← ey2] at h3 hv ay
    rw [← el1] at h3 hv
    have p3 := MSr_p h3
    have q2 : pwq sg (ruV n b (.inl y', l')) = (.inl y2, pwl sg l1) := by
      rw [hv]
      unfold pwq pwl
      by_cases c : sg = 0
      · rw [if_pos c, if_pos c]
      · rw [if_neg c, if_neg c]
        have : (pww sg w0).length = w0.length + 1 := by unfold pww; rw [if_neg c]; rfl
        exact ruW_lt (by show l1.length < 800; omega)
    rw [q2] at hq
    have wok := pww_w hsg (Ph_w hph hs0 h64)
    have w0ok := Ph_w hph hs0 h64
    have st4 : wp (f_Model_settles m3 80 4) (fun M' => MSr n b 0 y2 (pwl sg l1) w0 M' ∧ Fr Wru m3 M') := by
      have := m_stlS ho (r := 4) (by decide) h3 wok.1 wok.2
      rw [stl_pw (by decide) hsg, Ph_4 hph hw4] at this
      exact this
    have sgn : ∀ x : Int, (x = 43 ∨ x = 45) → ckd n b 4 y2.1 = x → wp (j_Model_readSums_33_2 m3 80 z) (Sum.elim (fun s' : Int × Mm => j < n ∧ Fr Wru M s'.2 ∧ ∃ y' l' sg f w0 KK, MSr n b 0 y' l' (pww sg w0) s'.2 ∧ j + 1 ≤ y'.1 ∧ n ≤ f + y'.1 ∧ (sg = 0 ∨ sg = 43 ∨ sg = 45) ∧ fin = KK (ruSl n b f (pwq sg (ruV n b (.inl y', l')))) ∧ PhS n b w s'.1 w0 KK) (SumQ n b w M fin)) := fun x hx hk2 => by
      unfold j_Model_readSums_33_2
      refine wK st4 (fun m4 g4 => wM (m_ps ho g4.1 (by omega) (by omega) hk2) (fun t ht => ?_))
      obtain ⟨m5, rfl, h5, f5⟩ := ht
      have ay2 := adY_p ho p3.1 (by omega)
      obtain ⟨f', ef⟩ : ∃ f', f = f' + 1 := ⟨f - 1, by omega⟩
      refine ⟨by omega, Fr_tr F3 (Fr_tr g4.2 f5), adY n b y2, pwl sg l1, x, f', w0, KK, ?_, by omega, by omega, by omega, ?_, hph⟩
      · have : pww x w0 = x :: w0 := by unfold pww; rw [if_neg (by omega)]
        rw [this]; exact h5
      · rw [hq, ef]
        have un : ruSl n b (f' + 1) (.inl y2, pwl sg l1) = if ckd n b 4 y2.1 = 43 ∨ ckd n b 4 y2.1 = 45 then ruSl n b f' (ruW (-(ckd n b 4 y2.1)) (ruV n b (.inl (adY n b y2), pwl sg l1))) else (.inl y2, pwl sg l1) := rfl
        have pw : ∀ q, pwq x q = ruW (-x) q := fun q => by unfold pwq; rw [if_neg (by omega)]
        rw [un, if_pos (by omega), hk2, pw]
    have noS : ckd n b 4 y2.1 ≠ 43 → ckd n b 4 y2.1 ≠ 45 → ruSl n b f (.inl y2, pwl sg l1) = (.inl y2, pwl sg l1) := fun a1 a2 => by
      cases f with
      | zero => rfl
      | succ f =>
        show (if ckd n b 4 y2.1 = 43 ∨ ckd n b 4 y2.1 = 45 then _ else (Sum.inl y2, pwl sg l1)) = _
        rw [if_neg (by omega)]
    have exitQ : ckd n b 4 y2.1 ≠ 43 → ckd n b 4 y2.1 ≠ 45 → (z = 0 → ckd n b 4 y2.1 ≠ 60 ∧ ckd n b 4 y2.1 ≠ 61 ∧ ckd n b 4 y2.1 ≠ 62) → SumQ n b w M fin (.inr (z, m3)) := fun a1 a2 a3 => by
      rw [noS a1 a2] at hq
      exact Or.inr ⟨z, m3, y2, l1, sg, w0, KK, rfl, F3, h3, hsg, hq, hph, a3⟩
    rw [n_sgT p3.2.1 (by decide) (by decide), Option.bind_some]
    by_cases c43 : ckd n b 4 y2.1 = 43
    · rw [if_pos c43]
      exact wI (by decide) (sgn 43 (Or.inl rfl) c43)
    · rw [if_neg c43]
      refine wE (by decide) ?_
      rw [n_sgT p3.2.1 (by decide) (by decide), Option.bind_some]
      by_cases c45 : ckd n b 4 y2.1 = 45
      · rw [if_pos c45]
        exact wE (by decide) (sgn 45 (Or.inr rfl) c45)
      · rw [if_neg c45]
        refine wI rfl (wC (fun cz => ?_) (fun cz => ?_))
        · exact wSr (exitQ c43 c45 (fun e => absurd e cz))
        · have z0 : z = 0 := by omega
          have cmp : ∀ x : Int, (x = 60 ∨ x = 61 ∨ x = 62) → ckd n b 4 y2.1 = x → wp (j_Model_readSums_72_2 m3 80) (Sum.elim (fun s' : Int × Mm => j < n ∧ Fr Wru M s'.2 ∧ ∃ y' l' sg f w0 KK, MSr n b 0 y' l' (pww sg w0) s'.2 ∧ j + 1 ≤ y'.1 ∧ n ≤ f + y'.1 ∧ (sg = 0 ∨ sg = 43 ∨ sg = 45) ∧ fin = KK (ruSl n b f (pwq sg (ruV n b (.inl y', l')))) ∧ PhS n b w s'.1 w0 KK) (SumQ n b w M fin)) := fun x hx hk2 => by
            unfold j_Model_readSums_72_2
            refine wK st4 (fun m4 g4 => wM (m_ps ho g4.1 (by omega) (by omega) hk2) (fun t ht => ?_))
            obtain ⟨m5, rfl, h5, f5⟩ := ht
            have ay2 := adY_p ho p3.1 (by omega)
            have ew : w0 = w ∧ KK = ruK0 n b := by
              rcases hph with ⟨_, e1, e2⟩ | ⟨e0, _⟩
              · exact ⟨e1, e2⟩
              · omega
            refine ⟨by omega, Fr_tr F3 (Fr_tr g4.2 f5), adY n b y2, pwl sg l1, 0, 800, x :: w, ruW (-x), ?_, by omega, by omega, Or.inl rfl, ?_, Or.inr ⟨rfl, x, hx, rfl, rfl⟩⟩
            · rw [ew.1] at h5; exact h5
            · rw [hq, noS c43 c45, ew.2]
              have ec : ruC1 n b (.inl y2, pwl sg l1) = (.inl y2, pwl sg l1) := by
                unfold ruC1
                exact if_pos (show ckd n b 4 y2.1 = 60 ∨ ckd n b 4 y2.1 = 61 ∨ ckd n b 4 y2.1 = 62 by omega)
              unfold ruK0
              rw [ec, show zK n b 4 (Sum.inl y2, pwl sg l1).1 = x from hk2]
              rfl
          rw [n_sgT p3.2.1 (by decide) (by decide), Option.bind_some, n_sgT p3.2.1 (by decide) (by decide), Option.bind_some, n_sgT p3.2.1 (by decide) (by decide), Option.bind_some]
          by_cases c60 : ckd n b 4 y2.1 = 60
          · rw [if_pos c60]; exact wI (by decide) (cmp 60 (Or.inl rfl) c60)
          · rw [if_neg c60]
            refine wE (by decide) ?_
            by_cases c61 : ckd n b 4 y2.1 = 61
            · rw [if_pos c61]; exact wI (by decide) (cmp 61 (Or.inr (Or.inl rfl)) c61)
            · rw [if_neg c61]
              refine wE (by decide) ?_
              by_cases c62 : ckd n b 4 y2.1 = 62
              · rw [if_pos c62]; exact wE (by decide) (cmp 62 (Or.inr (Or.inr rfl)) c62)
              · rw [if_neg c62]
                exact wI rfl (wSr (exitQ c43 c45 (fun _ => ⟨c60, c61, c62⟩)))
  · refine wE (by rw [ht1]; decide) (wSr (Or.inl ⟨e, t.2, rfl, ?_, h2, Fr_tr hf f1⟩))
    have e1 : (pwq sg (ruV n b (.inl y', l'))).1 = .inr e := by
      unfold pwq
      split
      · exact hv
      · exact hv
    have e2 : ruSl n b f (pwq sg (ruV n b (.inl y', l'))) = pwq sg (ruV n b (.inl y', l')) := ruSl_inr (by rw [e1]; exact fun h => h)
    rw [hq, e2, Ph_inr hph (by rw [e1]; exact fun h => h), e1]
theorem m_sums (ho : OKt n b) (h : MSr n b 0 y l w M) (hw3 : ∀ l, stl 3 l w = (l, w)) (hw4 : ∀ l, stl 4 l w = (l, w)) (hs0 : ∀ x ∈ w, 0 ≤ x) (h64 : w.length ≤ 60) : wp (f_Model_readSums M 80) (fun t => Fr Wru M t.2 ∧ ((∃ y', (ruC n b (.inl y, l)).1 = .inl y' ∧ t.1 = 1 ∧ MSr n b 0 y' (ruC n b (.inl y, l)).2 w t.2) ∨ (∃ e, (ruC n b (.inl y, l)).1 = .inr e ∧ t.1 = 0 ∧ FM n b e t.2))) := by
  have hn := ho.1
  unfold f_Model_readSums
  refine wK (m_sumL ho h hw4 hs0 h64) (fun t ht => ?_)
  generalize ruC n b (.inl y, l) = fin at *
  rcases ht with ⟨e, m, rfl, h1, h2, h3⟩ | ⟨z, m, y2, l1, s, w0, KK, rfl, hf, h1, hs, hq, hph, hz⟩
  · exact wS ⟨h3, Or.inr ⟨e, h1, rfl, h2⟩⟩
  · show wp (j_Model_readSums_82 m 80 z) _
    unfold j_Model_readSums_82
    have wok := pww_w hs (Ph_w hph hs0 h64)
    have st3 := m_stlS ho (r := 3) (by decide) h1 wok.1 wok.2
    rw [stl_pw (by decide) hs] at st3
    refine wK st3 (fun m2 g2 => ?_)
    obtain ⟨h2, f2⟩ := g2
    have p2 := MSr_p h2
    rcases hph with ⟨rfl, rfl, rfl⟩ | ⟨rfl, cs, hc, rfl, rfl⟩
    · refine wE (by decide) ?_
      rw [n_fails p2.2.1, Option.bind_some]
      refine wI rfl (wS ⟨Fr_tr hf (Fr_tr f2 (Fr_sub fl_fr (fun c x w => WFl_u w))), Or.inr ⟨(1, (tPl n b y2.1 : Int)), ?_, rfl, fl_ok p2.2.1.1⟩⟩)
      have hz := hz rfl
      have ec : ruC1 n b (.inl y2, pwl s l1) = (.inr (1, (tPl n b y2.1 : Int)), pwl s l1) := by
        unfold ruC1
        exact (if_neg (show ¬ (ckd n b 4 y2.1 = 60 ∨ ckd n b 4 y2.1 = 61 ∨ ckd n b 4 y2.1 = 62) by omega)).trans rfl
      rw [hq]
      unfold ruK0
      rw [ec]
      show (ruS n b (.inr (1, (tPl n b y2.1 : Int)), pwl s l1)).1 = _
      exact ruS_inr (q := (.inr (1, (tPl n b y2.1 : Int)), pwl s l1)) (fun h => h)
    · refine wI (by decide) (wS ⟨Fr_tr hf f2, Or.inl ⟨y2, by rw [hq]; rfl, rfl, ?_⟩⟩)
      have e3 : stl 3 (pwl s l1) (cs :: w) = (pwl s l1 ++ [-cs], w) := by
        rw [stl_c, if_neg (by omega), if_neg (by omega), if_neg, hw3]
        rcases hc with rfl | rfl | rfl <;> decide
      rw [e3] at h2
      have p3 := MSr_p h2
      have : (pwl s l1 ++ [-cs]).length = (pwl s l1).length + 1 := len_app
      have p30 : (pwl s l1 ++ [-cs]).length + w.length ≤ y2.1 + 0 := p3.2.2
      have p31 : y2.1 ≤ n := p3.1
      have e4 : fin.2 = pwl s l1 ++ [-cs] := by rw [hq, ruW_lt (by show (pwl s l1).length < 800; omega)]
      rw [e4]; exact h2
end RSM
