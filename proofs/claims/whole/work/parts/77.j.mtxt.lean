/-! the reference's text and load -/
def WTm (m c x : Nat) : Prop := (c = 79 ∧ 30 ≤ x ∧ x ≤ 37) ∨ (85 ≤ c ∧ c ≤ 90 ∧ m ≤ x) ∨ ((c = 91 ∨ c = 93) ∧ 10 * m ≤ x) ∨ (c = 92 ∧ 40 * m ≤ x)
def Bd (D : PcD) : Prop := pPt D ≤ 10 ∧ ∀ i, i < pPt D → pMy D i ≤ 4
theorem PM_fr2 {k : Nat} {D : PcD} {W : Nat → Nat → Prop} {M M' : Mm} (h : PM k D M) (hb : Bd D) (f : Fr W M M') (hw : ∀ c x, W c x → ¬ (85 ≤ c ∧ c ≤ 90 ∧ x = k) ∧ ¬ (c = 91 ∧ 10 * k ≤ x ∧ x < 10 * k + 10) ∧ ¬ (c = 92 ∧ 40 * k ≤ x ∧ x < 40 * k + 40)) : PM k D M' := by
  have e : ∀ c, 85 ≤ c → c ≤ 90 → mg M' c k = mg M c k := fun c a1 a2 => f.1 c k (fun w => (hw c k w).1 ⟨a1, a2, rfl⟩)
  obtain ⟨h1, h2, h3, h4, h5, h6, h7⟩ := h
  refine ⟨(e 85 (by omega) (by omega)).trans h1, (e 86 (by omega) (by omega)).trans h2, (e 87 (by omega) (by omega)).trans h3, (e 88 (by omega) (by omega)).trans h4, (e 89 (by omega) (by omega)).trans h5, (e 90 (by omega) (by omega)).trans h6, fun i hi => ⟨?_, fun j hj => ?_⟩⟩
  · have := hb.1
    exact (f.1 _ _ (fun w => (hw _ _ w).2.1 (by omega))).trans (h7 i hi).1
  · have := hb.1
    have := hb.2 i hi
    exact (f.1 _ _ (fun w => (hw _ _ w).2.2 (by omega))).trans ((h7 i hi).2 j hj)
section MTx
variable {n : Nat} {b : Nat → Int} {p tk m : Nat} {M : Mm} {lb : Nat → PcD} {ch : Nat → Nat → Int}
theorem m_text (ho : OKt n b) (h : RM false n b p M) (h37 : mg M 79 37 = (m : Int)) (hm : m ≤ 10) (hP : ∀ k, k < m → PM k (lb k) M ∧ OKn (pNm (lb k)) ∧ Bd (lb k)) (fin : Ts × Nat × (Nat → PcD)) (hfin : fin = spText n b 800 (.inl (p, tk), m, lb)) : wp (loopN (l_Model_readText_18 80) FU M) (fun t => ∃ M', Fr (WTm m) M M' ∧ ((∃ y, fin.1 = .inl y ∧ t = .inr M' ∧ RM false n b y.1 M' ∧ m ≤ fin.2.1 ∧ fin.2.1 ≤ 10 ∧ mg M' 79 37 = (fin.2.1 : Int) ∧ ∀ k, k < fin.2.1 → PM k (fin.2.2 k) M' ∧ Bd (fin.2.2 k) ∧ (m ≤ k → ∀ i, i < 10 → mg M' 93 (10 * k + i) = 0)) ∨ (∃ e, fin.1 = .inr e ∧ t = .inl (0, M') ∧ FM n b e M'))) := by
  refine wp_loop (fun j s => Fr (WTm m) M s ∧ ∃ p' tk' lb', RM false n b p' s ∧ m + j ≤ 10 ∧ mg s 79 37 = ((m + j : Nat) : Int) ∧ (∀ k, k < m + j → PM k (lb' k) s ∧ OKn (pNm (lb' k)) ∧ Bd (lb' k) ∧ (m ≤ k → ∀ i, i < 10 → mg s 93 (10 * k + i) = 0)) ∧ fin = spText n b (800 - j) (.inl (p', tk'), m + j, lb')) (10 - m) (by omega) ⟨Fr_rf, p, tk, lb, h, by omega, h37, fun k hk => ⟨(hP k hk).1, (hP k hk).2.1, (hP k hk).2.2, fun e => by omega⟩, hfin⟩ ?_
  rintro j s hj ⟨hf, p', tk', lb', h1, h2, h3, h4, hq⟩
  have e4 : 800 - j = (800 - (j + 1)) + 1 := by omega
  have un : fin = if zW n b 2 (txs 0) (.inl (p', tk')) = true then (if m + j < 10 then spText n b (800 - (j + 1)) ((spPiece n b (m + j) lb' (.inl (p', tk'))).1, m + j + 1, up lb' (m + j) (spPiece n b (m + j) lb' (.inl (p', tk'))).2) else spText n b (800 - (j + 1)) (zF n b 4 (.inl (p', tk')), m + j, lb')) else (.inl (p', tk'), m + j, lb') := by rw [hq, e4]; rfl
  unfold l_Model_readText_18
  rw [n_isWord ho h1 (w := 0) (tk := tk') (by decide) m_w0, Option.bind_some]
  cases hz : zW n b 2 (txs 0) (.inl (p', tk')) with
  | false =>
    rw [hz, if_neg (by decide)] at un
    refine wI (by decide) (wSr ⟨s, hf, Or.inl ⟨(p', tk'), by rw [un], rfl, h1, ?_, ?_, ?_, ?_⟩⟩)
    · rw [un]; show m ≤ m + j; omega
    · rw [un]; exact h2
    · rw [un]; exact h3
    · rw [un]; exact fun k hk => ⟨(h4 k hk).1, (h4 k hk).2.2.1, (h4 k hk).2.2.2⟩
  | true =>
    rw [hz, if_pos rfl] at un
    refine wE (by decide) ?_
    by_cases c : m + j < 10
    · rw [if_pos c] at un
      refine wK (m_rdPiece (tk := tk') (lb := lb') ho h1 h3 c (fun o hoo => ⟨(h4 o hoo).1.1, (h4 o hoo).2.1⟩)) (fun t ht => ?_)
      obtain ⟨f1, ht⟩ := ht
      have F1 : Fr (WTm m) M t.2 := Fr_tr hf (Fr_sub f1 (fun c x w => by unfold WPm at w; unfold WTm; omega))
      cases hs : (spPiece n b (m + j) lb' (.inl (p', tk'))).1 with
      | inr e =>
        rw [hs] at ht un
        replace un := un.trans (spText_inr (fun e => e))
        exact wE (by rw [ht.1]; decide) (wSr ⟨t.2, F1, Or.inr ⟨e, by rw [un], rfl, ht.2⟩⟩)
      | inl y =>
        rw [hs] at ht un
        obtain ⟨k1, k2, k3, k4, k5, k6, k7⟩ := ht
        refine wI (by rw [k1]; decide) (wSl ⟨by omega, F1, y.1, y.2, _, k2, by omega, by rw [k7]; omega, fun k hk => ?_, un⟩)
        by_cases ek : k = m + j
        · rw [ek, up_s]; exact ⟨k3, k4, k5, fun _ => k6⟩
        · rw [up_n ek]
          have o := h4 k (by omega)
          refine ⟨PM_fr2 o.1 o.2.2.1 f1 (fun c x w => by unfold WPm at w; omega), o.2.1, o.2.2.1, fun hmk i hi => ?_⟩
          rw [f1.1 _ _ (by unfold WPm; omega)]; exact o.2.2.2 hmk i hi
    · rw [if_neg c] at un
      rw [spText_inr (show ¬ isI (zF n b 4 (.inl (p', tk'))) from fun e => e)] at un
      unfold f_Model_readPiece
      rw [show cI 80 = 79 from rfl, h3, if_neg (by omega), n_fails h1]
      refine wX (a := (0, flM n b 4 p' s)) rfl ?_
      exact wE (show ¬ (0 : Int) ≠ 0 by decide) (wSr ⟨_, Fr_tr hf (Fr_sub fl_fr (fun c x w => by unfold WFl at w; unfold WTm; omega)), Or.inr ⟨(4, (tPl n b p' : Int)), by rw [un]; rfl, rfl, fl_ok h1.1⟩⟩)
def WLM (m c x : Nat) : Prop := WTm m c x ∨ (c = 79 ∧ (x = 0 ∨ x = 7 ∨ x = 29))
theorem WLM_p {m c x : Nat} (h : WLM m c x) : ¬ isP c x := by unfold WLM WTm at h; unfold isP; omega
theorem OKd_Bd {D : PcD} (h : OKd D) : Bd D := ⟨h.2.2.2.2.1, fun i hi => (h.2.2.2.2.2.2 i hi).1⟩
theorem CMl_fr2 {np : Nat} {W : Nat → Nat → Prop} {M' : Mm} (hok : OKl np m lb ch) (h : CMl m lb ch M) (f : Fr W M M') (h7 : mg M' 79 7 = (m : Int)) (hw : ∀ c x, W c x → ¬ (85 ≤ c ∧ c ≤ 90 ∧ x < m) ∧ ¬ ((c = 91 ∨ c = 93) ∧ x < 10 * m) ∧ ¬ (c = 92 ∧ x < 40 * m)) : CMl m lb ch M' := by
  refine ⟨h7, fun k hk => ?_⟩
  have o := h.2 k hk
  have ob := OKd_Bd (hok.2 k hk).1
  refine ⟨PM_fr2 o.1 ob f (fun c x w => by have := hw c x w; omega), fun i hi => ?_⟩
  have := ob.1
  exact (f.1 _ _ (fun w => (hw _ _ w).2.1 (by omega))).trans (o.2 i hi)
theorem m_load (ho : OKt n b) (hs : Sh M) (ht : CMt n b M) {np : Nat} (hl : CMl m lb ch M) (hok : OKl np m lb ch) : wp (f_Model_load M 80) (fun r => Fr (WLM m) M r.2 ∧ mg r.2 79 29 = 0 ∧ match ldT n b m lb with
    | .inl _ => r.1 = ((spLoad n b m lb).2.1 : Int) ∧ CMl (spLoad n b m lb).2.1 (spLoad n b m lb).2.2 (chN1 m ch) r.2 ∧ mg r.2 79 35 = 0 ∧ mg r.2 79 36 = -1
    | .inr e => r.1 = -1 ∧ CMl m lb ch r.2 ∧ mg r.2 79 35 = e.1 ∧ mg r.2 79 36 = e.2) := by
  unfold f_Model_load
  rw [show cI 80 = 79 from rfl]
  refine wL ?_
  unfold f_Model_readText
  rw [show cI 80 = 79 from rfl]
  refine wK (Q := fun t : Int × Mm => Fr (fun c x => WTm m c x ∨ (c = 79 ∧ x = 0)) M t.2 ∧ match ldT n b m lb with
    | .inl _ => t.1 = 1 ∧ m ≤ (spLoad n b m lb).2.1 ∧ (spLoad n b m lb).2.1 ≤ 10 ∧ mg t.2 79 37 = ((spLoad n b m lb).2.1 : Int) ∧ ∀ k, k < (spLoad n b m lb).2.1 → PM k ((spLoad n b m lb).2.2 k) t.2 ∧ Bd ((spLoad n b m lb).2.2 k) ∧ (m ≤ k → ∀ i, i < 10 → mg t.2 93 (10 * k + i) = 0)
    | .inr e => t.1 = 0 ∧ mg t.2 79 35 = e.1 ∧ mg t.2 79 36 = e.2) ?_ (fun t ht => ?_)
  · refine wL (wL ?_)
    have e7 : mg (mp (mp M 79 0 0) 79 30 0) 79 7 = (m : Int) := by rw [mg_mp_n (by omega), mg_mp_n (by omega)]; exact hl.1
    rw [e7]
    have f0 : Fr (fun c x => c = 79 ∧ (x = 0 ∨ x = 30 ∨ x = 37)) M (mp (mp (mp M 79 0 0) 79 30 0) 79 37 (m : Int)) := Fr_wr (Fr_wr (Fr_mp (by omega)) (by omega)) (by omega)
    have a30 : mg (mp (mp (mp M 79 0 0) 79 30 0) 79 37 (m : Int)) 79 30 = ((0 : Nat) : Int) := by rw [mg_mp_n (by omega), mg_mp_s]; rfl
    have a37 : mg (mp (mp (mp M 79 0 0) 79 30 0) 79 37 (m : Int)) 79 37 = (m : Int) := by rw [mg_mp_s]
    generalize mp (mp (mp M 79 0 0) 79 30 0) 79 37 (m : Int) = m0 at *
    have T0 : TM n b m0 := TM_fr ⟨hs, ht⟩ f0 (fun c x w => by unfold isP; omega)
    refine wK (m_next (r := false) T0 ho (Nat.zero_le _) a30) (fun m1 g1 => ?_)
    have R1 : RM false n b 0 m1 := ⟨TM_lm T0 g1.1, Nat.zero_le _, g1.2⟩
    have f1 := g1.1
    have fA : Fr (fun c x => c = 79 ∧ (x = 0 ∨ (30 ≤ x ∧ x ≤ 34) ∨ x = 37)) M m1 := Fr_tr (Fr_sub f0 (fun c x w => by omega)) (Fr_sub f1 (fun c x w => by unfold WLm at w; omega))
    refine wK (m_text (tk := tks n b 2 0 0) (lb := lb) (m := m) ho R1 (by rw [f1.1 _ _ (by unfold WLm; omega)]; exact a37) hok.1 (fun k hk => ⟨PM_fr (hl.2 k hk).1 fA (fun c x w => by omega), (hok.2 k hk).1.1, OKd_Bd (hok.2 k hk).1⟩) (spLoad n b m lb) rfl) (fun t ht => ?_)
    obtain ⟨m2, f2, ht⟩ := ht
    have F2 : Fr (fun c x => WTm m c x ∨ (c = 79 ∧ x = 0)) M m2 := Fr_tr (Fr_sub fA (fun c x w => by unfold WTm; omega)) (Fr_sub f2 (fun c x w => Or.inl w))
    rcases ht with ⟨y, k1, k2, k3, k4, k5, k6, k7⟩ | ⟨e, k1, k2, k3⟩
    · rw [k2]
      show wp (if mg m2 79 32 = 0 then _ else _) _
      have ez : ldT n b m lb = if zK n b 2 (.inl y) = -1 then .inl y else zF n b 1 (.inl y) := by unfold ldT zEnd; rw [k1]
      have eK : zK n b 2 (.inl y) = -1 ↔ mTk false n b y.1 = 0 := (ckd_m1 ho).trans (mTk_0 (r := false)).symm
      rw [show mg m2 79 32 = mTk false n b y.1 from k3.2.2.2.2.1]
      by_cases c : mTk false n b y.1 = 0
      · rw [if_pos (eK.mpr c)] at ez
        rw [ez]
        exact wI c (wS ⟨F2, rfl, k4, k5, k6, k7⟩)
      · rw [if_neg (fun e => c (eK.mp e))] at ez
        rw [ez, n_fails k3, Option.bind_some]
        have := fl_ok (p := y.1) (w := 1) k3.1
        exact wE c (wI rfl (wS ⟨Fr_tr F2 (Fr_sub fl_fr (fun c x w => by unfold WFl at w; unfold WTm; omega)), rfl, this.2.1, this.2.2⟩))
    · rw [k2]
      have ez : ldT n b m lb = .inr e := by unfold ldT zEnd; rw [k1]; rfl
      rw [ez]
      exact wS ⟨F2, rfl, k3.2.1, k3.2.2⟩
  · obtain ⟨f, ht⟩ := ht
    refine wL ?_
    have fa : Fr (WLM m) M (mp t.2 79 29 0) := Fr_wr (Fr_sub f (fun c x w => by unfold WLM; unfold WTm at w ⊢; omega)) (by unfold WLM; omega)
    cases hτ : ldT n b m lb with
    | inr e =>
      rw [hτ] at ht
      obtain ⟨k1, k2, k3⟩ := ht
      refine wE (by rw [k1]; decide) (wS ⟨fa, by rw [mg_mp_s], rfl, ?_, by rw [mg_mp_n (by omega)]; exact k2, by rw [mg_mp_n (by omega)]; exact k3⟩)
      refine CMl_fr2 hok hl (W := fun c x => WTm m c x ∨ (c = 79 ∧ (x = 0 ∨ x = 29))) (Fr_wr (Fr_sub f (fun c x w => by unfold WTm at w ⊢; omega)) (by omega)) ?_ (fun c x w => by unfold WTm at w; omega)
      rw [mg_mp_n (by omega), f.1 _ _ (by unfold WTm; omega)]; exact hl.1
    | inl y =>
      rw [hτ] at ht
      obtain ⟨k1, k2, k3, k4, k5⟩ := ht
      refine wI (by rw [k1]; decide) (wL (wL ?_))
      have e37 : mg (mp (mp (mp t.2 79 29 0) 79 35 0) 79 36 (-1)) 79 37 = ((spLoad n b m lb).2.1 : Int) := by rw [mg_mp_n (by omega), mg_mp_n (by omega), mg_mp_n (by omega)]; exact k4
      rw [e37]
      have fz : Fr (fun c x => c = 79 ∧ (x = 29 ∨ x = 35 ∨ x = 36 ∨ x = 7)) t.2 (mp (mp (mp (mp t.2 79 29 0) 79 35 0) 79 36 (-1)) 79 7 ((spLoad n b m lb).2.1 : Int)) := Fr_wr (Fr_wr (Fr_wr (Fr_mp (by omega)) (by omega)) (by omega)) (by omega)
      refine wL (wS ⟨Fr_tr (Fr_sub f (fun c x w => by unfold WLM; unfold WTm at w ⊢; omega)) (Fr_sub fz (fun c x w => by unfold WLM WTm; omega)), ?_, ?_, ⟨?_, fun k hk => ⟨PM_fr (k5 k hk).1 fz (fun c x w => by omega), fun i hi => ?_⟩⟩, ?_, ?_⟩)
      · rw [mg_mp_n (by omega), mg_mp_n (by omega), mg_mp_n (by omega), mg_mp_s]
      · show mg (mp (mp (mp (mp t.2 79 29 0) 79 35 0) 79 36 (-1)) 79 7 ((spLoad n b m lb).2.1 : Int)) 79 7 = _
        rw [mg_mp_s]
      · rw [mg_mp_s]
      · have hk : k < (spLoad n b m lb).2.1 := hk
        have hi : i < pPt ((spLoad n b m lb).2.2 k) := hi
        have b10 := (k5 k hk).2.1.1
        rw [fz.1 _ _ (by omega)]
        unfold chN1
        by_cases ck : k < m
        · rw [if_pos ck, f.1 _ _ (by unfold WTm; omega)]
          have ek : (spLoad n b m lb).2.2 k = lb k := sp_keep 800 (.inl (0, tks n b 2 0 0), m, lb) ck
          rw [ek] at hi
          exact (hl.2 k ck).2 i hi
        · rw [if_neg ck, (k5 k hk).2.2 (by omega) i (by omega)]; rfl
      · rw [mg_mp_n (by omega), mg_mp_n (by omega), mg_mp_s]
      · rw [mg_mp_n (by omega), mg_mp_s]
end MTx
