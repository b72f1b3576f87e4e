/-! the reference reads THE RULE -/
def OKA : List Int → Prop
  | [] => True
  | x :: w => (x = 33 ∨ x = 40 ∨ (x = 38 ∧ nfr 2 w) ∨ (x = 124 ∧ nfr 1 w)) ∧ OKA w
def hdw : List Int → Nat
  | [] => 0
  | x :: _ => if x = 38 then 2 else if x = 124 then 1 else 0
theorem hdw_2 (z : Int) : (if z = 38 then 2 else if z = 124 then 1 else 0) ≤ 2 := by
  split
  · omega
  · split <;> omega
theorem OKA_len : ∀ {w : List Int}, OKA w → w.length ≤ 3 * opn w + hdw w
  | [], _ => Nat.zero_le _
  | x :: w, h => by
    have ih := OKA_len h.2
    have hd2 : hdw w ≤ 2 := by
      cases w with
      | nil => exact Nat.zero_le _
      | cons z w => exact hdw_2 z
    show w.length + 1 ≤ 3 * ((if x = 33 ∨ x = 40 then 1 else 0) + opn w) + (if x = 38 then 2 else if x = 124 then 1 else 0)
    rcases h.1 with e | e | ⟨e, hn⟩ | ⟨e, hn⟩
    · rw [if_pos (Or.inl e), if_neg (by omega), if_neg (by omega)]; omega
    · rw [if_pos (Or.inr e), if_neg (by omega), if_neg (by omega)]; omega
    · rw [if_neg (by omega), if_pos e]
      have : hdw w ≤ 1 := by
        cases w with
        | nil => exact Nat.zero_le _
        | cons z w =>
          show (if z = 38 then 2 else if z = 124 then 1 else 0) ≤ 1
          rcases hn with c | ⟨_, c⟩
          · rw [if_neg (by omega), if_neg (by omega)]; omega
          · rw [if_neg (fun e => by rw [e] at c; exact absurd c (by decide))]; split <;> omega
      omega
    · rw [if_neg (by omega), if_neg (by omega), if_pos e]
      have : hdw w = 0 := by
        cases w with
        | nil => rfl
        | cons z w =>
          show (if z = 38 then 2 else if z = 124 then 1 else 0) = 0
          rcases hn with c | ⟨_, c⟩
          · rw [if_neg (by omega), if_neg (by omega)]
          · rw [if_neg (fun e => by rw [e] at c; exact absurd c (by decide)), if_neg (fun e => by rw [e] at c; exact absurd c (by decide))]
      omega
theorem OKA_l {w : List Int} (h : OKA w) (ho : opn w ≤ 8) : w.length ≤ 26 := by
  have := OKA_len h
  have hd2 : hdw w ≤ 2 := by
    cases w with
    | nil => exact Nat.zero_le _
    | cons z w => exact hdw_2 z
  omega
theorem OKA_0 : ∀ {w : List Int}, OKA w → ∀ x ∈ w, 0 ≤ x
  | [], _, x, hx => by cases hx
  | z :: w, h, x, hx => by
    rcases List.mem_cons.mp hx with e | e
    · rw [e]; have := h.1; omega
    · exact OKA_0 h.2 x e
theorem OKA_34 {w : List Int} (h : OKA w) {r : Int} (hr : 2 < r) (l : List Int) : stl r l w = (l, w) := by
  cases w with
  | nil => rfl
  | cons x w =>
    rw [stl_c]
    rcases h.1 with e | e | ⟨e, _⟩ | ⟨e, _⟩
    · rw [if_neg (by omega), if_pos e, if_pos hr]
    · rw [if_pos e]
    · rw [if_neg (by omega), if_neg (by omega), if_pos (by rw [e]; show (2 : Int) < r; omega)]
    · rw [if_neg (by omega), if_neg (by omega), if_pos (by rw [e]; show (1 : Int) < r; omega)]
theorem stl_ok {r : Int} : ∀ {w : List Int} (l : List Int), OKA w → OKA (stl r l w).2 ∧ opn (stl r l w).2 ≤ opn w
  | [], _, _ => ⟨trivial, Nat.le_refl _⟩
  | x :: w, l, h => by
    have le : opn w ≤ opn (x :: w) := Nat.le_add_left _ _
    rw [stl_c]
    split
    · exact ⟨h, Nat.le_refl _⟩
    · split
      · split
        · exact ⟨h, Nat.le_refl _⟩
        · have := stl_ok (r := r) (l ++ [-33]) h.2
          exact ⟨this.1, Nat.le_trans this.2 le⟩
      · split
        · exact ⟨h, Nat.le_refl _⟩
        · have := stl_ok (r := r) (l ++ [-x]) h.2
          exact ⟨this.1, Nat.le_trans this.2 le⟩
theorem stl_nfr {r : Int} (hr : r ≤ 2) : ∀ (w l : List Int), nfr r (stl r l w).2
  | [], _ => trivial
  | x :: w, l => by
    rw [stl_c]
    split
    · rename_i c; exact Or.inl c
    · split
      · rw [if_neg (by omega)]; exact stl_nfr hr w _
      · split
        · rename_i c2 c3; exact Or.inr ⟨c2, c3⟩
        · exact stl_nfr hr w _
theorem opn_app : ∀ (a b : List Int), opn (a ++ b) = opn a + opn b
  | [], b => by show opn b = 0 + opn b; omega
  | x :: a, b => by
    show (if x = 33 ∨ x = 40 then 1 else 0) + opn (a ++ b) = (if x = 33 ∨ x = 40 then 1 else 0) + opn a + opn b
    rw [opn_app a b]; omega
theorem opn_rev : ∀ (w : List Int), opn w.reverse = opn w
  | [] => rfl
  | x :: w => by
    rw [List.reverse_cons, opn_app, opn_rev w]
    show opn w + ((if x = 33 ∨ x = 40 then 1 else 0) + 0) = (if x = 33 ∨ x = 40 then 1 else 0) + opn w
    omega
theorem opn_take {r : List Int} {j : Nat} (h : j < r.length) : opn (r.take (j + 1)) = opn (r.take j) + (if r.getD j 0 = 33 ∨ r.getD j 0 = 40 then 1 else 0) := by
  rw [List.take_succ, opn_app, List.getD_eq_getElem?_getD, List.getElem?_eq_getElem h]
  show opn (r.take j) + ((if r[j] = 33 ∨ r[j] = 40 then 1 else 0) + 0) = _
  rfl
section RRL
variable {n : Nat} {b : Nat → Int} {p c e : Nat} {y : Nat × Nat} {l w : List Int} {M : Mm} {fin : Rs}
theorem opn_le : ∀ (w : List Int), opn w ≤ w.length
  | [] => Nat.le_refl _
  | x :: w => by
    have := opn_le w
    show (if x = 33 ∨ x = 40 then 1 else 0) + opn w ≤ w.length + 1
    split <;> omega
theorem m_open (h : MSr n b 0 y l w M) (h64 : w.length ≤ 64) : f_Model_open M 80 = some (opn w : Int) := by
  have hs := (MSr_p h).2.1.1.1
  obtain ⟨c, _, k, _⟩ := h
  have e44 := k.2.2.2.2.1
  have ew := k.2.2.2.2.2
  refine w_eq ?_
  unfold f_Model_open
  refine wX (loop_for (t := ((opn w : Nat) : Int)) (fun j => (((opn (w.reverse.take j) : Nat) : Int), (j : Int))) w.length (by omega) rfl (fun j hj => ?_) ?_) (wS rfl)
  · unfold l_Model_open_4 j_Model_open_34_4
    have hr : j < w.reverse.length := by rw [List.length_reverse]; exact hj
    have hb := opn_le (w.reverse.take j)
    rw [List.length_take] at hb
    simp only [lt]
    rw [show cI 80 = 79 from rfl, e44, p_79_45 hs, show cI 108 = 107 from rfl, n_107 hs, Int.toNat_natCast, ew j hj, if_neg (by omega), if_pos (by decide), if_pos (by omega), w32_s (x := (j : Int) + 1) (by omega) (by omega), w32_s (x := ((opn (w.reverse.take j) : Nat) : Int) + 1) (by omega) (by omega), opn_take hr]
    by_cases c1 : w.reverse.getD j 0 = 33
    · rw [if_pos c1, if_pos (Or.inl c1)]; congr 3
    · rw [if_neg c1]
      by_cases c2 : w.reverse.getD j 0 = 40
      · rw [if_neg (by omega), if_pos (Or.inr c2)]; congr 3
      · rw [if_pos c2, if_neg (by omega)]; congr 3
  · unfold l_Model_open_4
    rw [show cI 80 = 79 from rfl, e44, if_pos (Int.le_refl _)]
    show some (Sum.inr (((opn (w.reverse.take w.length) : Nat) : Int))) = _
    rw [← List.length_reverse (as := w), List.take_length, opn_rev]
theorem MSr_w {e e' : Nat} (h : MSr n b e y l w M) (he : e ≤ e') : MSr n b e' y l w M := by
  obtain ⟨c, hy, k, hc, hcp⟩ := h
  exact ⟨c, hy, k, by omega, hcp⟩
theorem MSr_44 (h : MSr n b e y l w M) : mg M 79 44 = (w.length : Int) := by obtain ⟨c, _, k, _⟩ := h; exact k.2.2.2.2.1
theorem MSr_pop {x : Int} (h : MSr n b 0 y l (x :: w) M) : MSr n b 0 y l w (mp M 79 44 (w.length : Int)) := by
  obtain ⟨c, hy, k, hc, hcp⟩ := h
  exact ⟨c, hy, MR0_pop k, by have : l.length + (w.length + 1) ≤ c + 0 := hc; omega, hcp⟩
def FinQ (n : Nat) (b : Nat → Int) (M : Mm) (fin : Rs) (t : Int × Mm) : Prop := Fr Wru M t.2 ∧ ((∃ y l, fin = (.inl y, l) ∧ t.1 = 1 ∧ MSr n b 0 y l [] t.2 ∧ ckd n b 4 y.1 = -1) ∨ (∃ e, fin = (.inr e, []) ∧ t.1 = 0 ∧ FM n b e t.2))
def StP (n : Nat) (b : Nat → Int) (ph : Bool) (fin : Rs) (y : Nat × Nat) (l w : List Int) (m : Mm) : Prop := MSr n b 0 y l w m ∧ OKA w ∧ opn w ≤ 8 ∧ fin = RUNp n b (ph, y, l, w)
theorem m_after (ho : OKt n b) (h : StP n b false fin y l w M) : wp (loopN (l_Model_readRule_99 80) FU (0, M)) (fun t => (∃ r, t = .inl r ∧ FinQ n b M fin r) ∨ (∃ m', t = .inr m' ∧ Fr Wru M m' ∧ ∃ y' l' w', StP n b true fin y' l' w' m' ∧ y.1 < y'.1)) := by
  have hn := ho.1
  refine wp_loop (fun (i : Nat) (s : Int × Mm) => Fr Wru M s.2 ∧ ((s.1 = 0 ∧ ∃ y' l' w', StP n b false fin y' l' w' s.2 ∧ y.1 ≤ y'.1 ∧ i ≤ y'.1) ∨ (s.1 = 1 ∧ ∃ y' l' w', StP n b true fin y' l' w' s.2 ∧ y.1 < y'.1))) (n + 1) (by omega) ⟨Fr_rf, Or.inl ⟨rfl, y, l, w, h, Nat.le_refl _, Nat.zero_le _⟩⟩ ?_
  rintro i ⟨z, m⟩ hi ⟨hf, hc⟩
  have hf : Fr Wru M m := hf
  unfold l_Model_readRule_99
  simp only []
  rcases hc with ⟨hz, y', l', w', hS, hy, hiy⟩ | ⟨hz, y', l', w', hS, hy⟩
  · have hz : z = 0 := hz
    subst hz
    obtain ⟨hM, hA, hO, hq⟩ := hS
    have hM : MSr n b 0 y' l' w' m := hM
    have p1 := MSr_p hM
    have w26 := OKA_l hA hO
    have hRB := RUN_B (l := l') (w := w') ho p1.1
    rw [hRB] at hq
    unfold pstB at hq
    have st : ∀ r : Int, 1 ≤ r → wp (f_Model_settles m 80 r) (fun M' => MSr n b 0 y' (stl r l' w').1 (stl r l' w').2 M' ∧ Fr Wru m M') := fun r hr => m_stlS ho hr hM (OKA_0 hA) (by omega)
    have tok : ∀ (r x : Int), 1 ≤ r → 0 ≤ x → ckd n b 4 y'.1 = x → OKA (x :: (stl r l' w').2) → opn (x :: (stl r l' w').2) ≤ 8 → fin = RUNp n b (true, adY n b y', (stl r l' w').1, x :: (stl r l' w').2) → wp (j_Model_readRule_136_99 m 80 r 80) (Sum.elim (fun s' : Int × Mm => i < n + 1 ∧ Fr Wru M s'.2 ∧ ((s'.1 = 0 ∧ ∃ y' l' w', StP n b false fin y' l' w' s'.2 ∧ y.1 ≤ y'.1 ∧ i + 1 ≤ y'.1) ∨ (s'.1 = 1 ∧ ∃ y' l' w', StP n b true fin y' l' w' s'.2 ∧ y.1 < y'.1))) (fun t => (∃ r, t = .inl r ∧ FinQ n b M fin r) ∨ (∃ m', t = .inr m' ∧ Fr Wru M m' ∧ ∃ y' l' w', StP n b true fin y' l' w' m' ∧ y.1 < y'.1))) := fun r x hr hx hk hA2 hO2 hq2 => by
      unfold j_Model_readRule_136_99
      refine wK (st r hr) (fun m2 g2 => ?_)
      obtain ⟨h2, f2⟩ := g2
      have p2 := MSr_p h2
      have hs2 := p2.2.1.1.1
      have l26 := OKA_l hA2 hO2
      have l26 : (stl r l' w').2.length + 1 ≤ 26 := l26
      have e44 := MSr_44 h2
      have pu := m_pushS h2 x
      rw [show cI 80 = 79 from rfl, p_79_45 hs2, show cI 108 = 107 from rfl, n_107 hs2, e44, Int.toNat_natCast, n_by p2.2.1 hx hk]
      refine wI (by decide) (wI (by omega) (wL ?_))
      rw [show mg (mp m2 107 (stl r l' w').2.length x) 79 44 = ((stl r l' w').2.length : Int) by rw [mg_mp_n (by omega)]; exact e44, w32_s (by omega) (by omega)]
      have ay := adY_p ho p1.1 (show ckd n b 4 y'.1 ≠ -1 by omega)
      exact wL (wK (m_stp ho pu.1 (by omega)) (fun m3 g3 => wSl ⟨by omega, Fr_tr hf (Fr_tr f2 (Fr_tr pu.2 g3.2)), Or.inr ⟨rfl, _, _, _, ⟨g3.1, hA2, hO2, hq2⟩, by omega⟩⟩))
    have bad : ∀ m2, MSr n b 0 y' (stl 1 l' w').1 (stl 1 l' w').2 m2 → Fr Wru m m2 → fin = (.inr (1, (tPl n b y'.1 : Int)), []) → FinQ n b M fin (0, flM n b 1 y'.1 m2) := fun m2 h2 f2 e => ⟨Fr_tr hf (Fr_tr f2 (Fr_sub fl_fr (fun c x w => WFl_u w))), Or.inr ⟨_, e, rfl, fl_ok (MSr_p h2).2.1.1⟩⟩
    refine wE (by decide) ?_
    rw [n_sgT p1.2.1 (by decide) (by decide), Option.bind_some]
    by_cases c38 : ckd n b 4 y'.1 = 38
    · rw [if_pos c38] at hq ⊢
      refine wI (by decide) ?_
      unfold j_Model_readRule_121_99
      rw [n_sgT p1.2.1 (by decide) (by decide), Option.bind_some, if_pos c38]
      have ok := stl_ok (r := 2) l' hA
      refine wE (by decide) (tok 2 38 (by decide) (by decide) c38 ⟨Or.inr (Or.inr (Or.inl ⟨rfl, stl_nfr (by decide) _ _⟩)), ok.1⟩ ?_ hq)
      show 0 + opn (stl 2 l' w').2 ≤ 8; omega
    · rw [if_neg c38] at hq ⊢
      refine wE (by decide) ?_
      rw [n_sgT p1.2.1 (by decide) (by decide), Option.bind_some]
      by_cases c124 : ckd n b 4 y'.1 = 124
      · rw [if_pos c124] at hq ⊢
        refine wE (by decide) ?_
        unfold j_Model_readRule_121_99
        rw [n_sgT p1.2.1 (by decide) (by decide), Option.bind_some, if_neg c38]
        have ok := stl_ok (r := 1) l' hA
        refine wI rfl (tok 1 124 (by decide) (by decide) c124 ⟨Or.inr (Or.inr (Or.inr ⟨rfl, stl_nfr (by decide) _ _⟩)), ok.1⟩ ?_ hq)
        show 0 + opn (stl 1 l' w').2 ≤ 8; omega
      · rw [if_neg c124] at hq ⊢
        refine wI rfl ?_
        rw [n_sgT p1.2.1 (by decide) (by decide), Option.bind_some]
        by_cases c41 : ckd n b 4 y'.1 = 41
        · rw [if_pos c41] at hq ⊢
          refine wE (by decide) (wK (st 1 (by decide)) (fun m2 g2 => ?_))
          obtain ⟨h2, f2⟩ := g2
          have ok := stl_ok (r := 1) l' hA
          have e44 := MSr_44 h2
          have p2 := MSr_p h2
          rw [show cI 80 = 79 from rfl, e44]
          cases hw2 : (stl 1 l' w').2 with
          | nil =>
            rw [hw2, if_pos rfl] at hq
            refine wE (by decide) ?_
            rw [n_fails p2.2.1, Option.bind_some]
            exact wSr (Or.inl ⟨_, rfl, bad m2 h2 f2 hq⟩)
          | cons x w3 =>
            rw [hw2, if_neg (fun e => by cases e)] at hq
            rw [hw2] at h2 ok
            have hpop := MSr_pop h2
            have ol : opn w3 ≤ opn (x :: w3) := Nat.le_add_left _ _
            have ok3 := stl_ok (r := 2) (stl 1 l' w').1 ok.1.2
            have l3 := OKA_l ok.1.2 (show opn w3 ≤ 8 by omega)
            have hl : (x :: w3).length = w3.length + 1 := rfl
            rw [hl, w32_s (by omega) (by omega), show ((w3.length + 1 : Nat) : Int) - 1 = (w3.length : Int) by omega]
            have f3 : Fr Wru m2 (mp m2 79 44 (w3.length : Int)) := Fr_mp (by unfold Wru; omega)
            refine wI (by omega) (wL (wK (m_stlS ho (r := 2) (by decide) hpop (OKA_0 ok.1.2) (by omega)) (fun m4 g4 => ?_)))
            have ay := adY_p ho p1.1 (show ckd n b 4 y'.1 ≠ -1 by omega)
            refine wK (m_stp ho (MSr_w g4.1 (Nat.zero_le 1)) (by omega)) (fun m5 g5 => wSl ⟨by omega, Fr_tr hf (Fr_tr f2 (Fr_tr f3 (Fr_tr g4.2 g5.2))), Or.inl ⟨rfl, _, _, _, ⟨g5.1, ok3.1, by omega, hq⟩, by omega, by omega⟩⟩)
        · rw [if_neg c41] at hq ⊢
          refine wI rfl (wK (st 1 (by decide)) (fun m2 g2 => ?_))
          obtain ⟨h2, f2⟩ := g2
          have e44 := MSr_44 h2
          have p2 := MSr_p h2
          unfold j_Model_readRule_239_99
          rw [show cI 80 = 79 from rfl, e44, show mg m2 79 32 = mTk true n b y'.1 from p2.2.1.2.2.2.2.1, n_fails p2.2.1, Option.bind_some]
          have eK : ckd n b 4 y'.1 = -1 ↔ mTk true n b y'.1 = 0 := (ckd_m1 ho).trans (mTk_0 (r := true)).symm
          refine wC (fun c => ?_) (fun c => wC (fun c2 => ?_) (fun c2 => ?_))
          · rw [if_neg (fun e => c (eK.mp e.1))] at hq
            exact wI rfl (wSr (Or.inl ⟨_, rfl, bad m2 h2 f2 hq⟩))
          · have ck := eK.mpr (by omega)
            have w0 : (stl 1 l' w').2 = [] := List.length_eq_zero_iff.mp (by omega)
            rw [if_pos ⟨ck, w0⟩] at hq
            rw [w0] at h2
            exact wSr (Or.inl ⟨_, rfl, Fr_tr hf f2, Or.inl ⟨y', _, hq, rfl, h2, ck⟩⟩)
          · rw [if_neg (fun e => c2 (by rw [e.2]; rfl))] at hq
            exact wI rfl (wSr (Or.inl ⟨_, rfl, bad m2 h2 f2 hq⟩))
  · have hz : z = 1 := hz
    exact wI (by omega) (wSr (Or.inr ⟨m, rfl, hf, y', l', w', hS, hy⟩))
theorem m_rrule (ho : OKt n b) (h : StP n b true fin y l w M) : wp (loopN (l_Model_readRule_25 80) FU M) (FinQ n b M fin) := by
  have hn := ho.1
  refine wp_loop (fun (j : Nat) (s : Mm) => Fr Wru M s ∧ ∃ y' l' w', StP n b true fin y' l' w' s ∧ j ≤ y'.1) n (by omega) ⟨Fr_rf, y, l, w, h, Nat.zero_le _⟩ ?_
  rintro j m hj ⟨hf, y', l', w', ⟨hM, hA, hO, hq⟩, hjy⟩
  have p1 := MSr_p hM
  have w26 := OKA_l hA hO
  have hRA := RUN_A (l := l') (w := w') ho p1.1
  rw [hRA] at hq
  unfold pstA at hq
  unfold l_Model_readRule_25
  have sg : (ckd n b 4 y'.1 = 33 ∨ ckd n b 4 y'.1 = 40) → wp (j_Model_readRule_43_25 m 80) (Sum.elim (fun s' : Mm => j < n ∧ Fr Wru M s' ∧ ∃ y' l' w', StP n b true fin y' l' w' s' ∧ j + 1 ≤ y'.1) (FinQ n b M fin)) := fun cc => by
    rw [if_pos cc] at hq
    unfold j_Model_readRule_43_25
    rw [m_open hM (by omega), Option.bind_some]
    refine wC (fun c => ?_) (fun c => ?_)
    · rw [if_neg (by omega)] at hq
      have hs := p1.2.1.1.1
      have e44 := MSr_44 hM
      obtain ⟨x, ex⟩ : ∃ x, x = ckd n b 4 y'.1 := ⟨_, rfl⟩
      rw [← ex] at hq cc
      have pu := m_pushS hM x
      rw [show cI 80 = 79 from rfl, p_79_45 hs, show cI 108 = 107 from rfl, n_107 hs, e44, Int.toNat_natCast, n_by p1.2.1 (x := x) (by omega) ex.symm]
      refine wI (by decide) (wI (by omega) (wL ?_))
      rw [show mg (mp m 107 w'.length x) 79 44 = (w'.length : Int) by rw [mg_mp_n (by omega)]; exact e44, w32_s (by omega) (by omega)]
      have ay := adY_p ho p1.1 (show ckd n b 4 y'.1 ≠ -1 by omega)
      refine wL (wK (m_stp ho pu.1 (by omega)) (fun m3 g3 => wSl ⟨by omega, Fr_tr hf (Fr_tr pu.2 g3.2), _, _, _, ⟨g3.1, ⟨?_, hA⟩, ?_, hq⟩, by omega⟩))
      · omega
      · show (if x = 33 ∨ x = 40 then 1 else 0) + opn w' ≤ 8
        rw [if_pos cc]; omega
    · rw [if_pos (by omega)] at hq
      rw [n_fails p1.2.1, Option.bind_some]
      exact wSr ⟨Fr_tr hf (Fr_sub fl_fr (fun c x w => WFl_u w)), Or.inr ⟨_, hq, rfl, fl_ok p1.2.1.1⟩⟩
  rw [n_sgT p1.2.1 (by decide) (by decide), Option.bind_some, n_sgT p1.2.1 (by decide) (by decide), Option.bind_some]
  by_cases c33 : ckd n b 4 y'.1 = 33
  · rw [if_pos c33]; exact wI (by decide) (sg (Or.inl c33))
  · rw [if_neg c33]
    refine wE (by decide) ?_
    by_cases c40 : ckd n b 4 y'.1 = 40
    · rw [if_pos c40]; exact wE (by decide) (sg (Or.inr c40))
    · rw [if_neg c40]
      rw [if_neg (by omega)] at hq
      refine wI rfl (wK (m_sums ho hM (OKA_34 hA (by decide)) (OKA_34 hA (by decide)) (OKA_0 hA) (by omega)) (fun t ht => ?_))
      obtain ⟨f1, ht⟩ := ht
      rcases ht with ⟨y2, e1, e2, e3⟩ | ⟨e, e1, e2, e3⟩
      · rw [e1] at hq
        have pg := (Pg_C ho (q := (.inl y', l')) (by rw [e1]; trivial)).2 p1.1
        rw [e1] at pg
        have pg1 : y'.1 + 3 ≤ y2.1 := pg.2.1
        refine wI (by rw [e2]; decide) (wK (m_after ho (fin := fin) ⟨e3, hA, hO, hq⟩) (fun t2 ht2 => ?_))
        rcases ht2 with ⟨r, rfl, hF⟩ | ⟨m', rfl, hF, y3, l3, w3, hS3, hy3⟩
        · exact wSr ⟨Fr_tr hf (Fr_tr f1 hF.1), hF.2⟩
        · have := (MSr_p hS3.1).1
          exact wSl ⟨by omega, Fr_tr hf (Fr_tr f1 hF), y3, l3, w3, hS3, by omega⟩
      · rw [e1] at hq
        exact wE (by rw [e2]; decide) (wSr ⟨Fr_tr hf f1, Or.inr ⟨e, hq, rfl, e3⟩⟩)
end RRL
