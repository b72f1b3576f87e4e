/-! the reference reads a PART and the PARTS of a PIECE -/
def RPt (n : Nat) (b : Nat → Int) (k i : Nat) (q : Ts × PcD) (t : Int × Mm) : Prop := match q.1 with
  | .inl y => t.1 = 1 ∧ RM false n b y.1 t.2 ∧ FMi k i q.2 t.2 ∧ OKf q.2 ∧ pPt q.2 = i
  | .inr e => t.1 = 0 ∧ FM n b e t.2
section MQ
variable {n : Nat} {b : Nat → Int} {p tk k : Nat} {M : Mm} {D : PcD}
theorem sp_in_ok {q : Ts × PcD} (h : OKf q.2) (h1 : 1 ≤ pPt q.2) : OKf (spOr n b 4 1 (spIns n b q)).2 ∧ pPt (spOr n b 4 1 (spIns n b q)).2 = pPt q.2 := by
  have hd := dI_ok (v := (zV n b q.1).toNat) h h1
  have := sp_or_ok (n := n) (b := b) 4 1 (spIns n b q) hd.1 (by rw [show pPt (spIns n b q).2 = pPt q.2 from hd.2.1]; exact h1)
  exact ⟨this.1, this.2.trans hd.2.1⟩
theorem m_j88 (ho : OKt n b) (hk : k < 10) (h : RM false n b p M) (hO : OKf D) (h1 : pPt D < 10) {mu : Bool} (h89 : mg M 89 k = (pPt D : Int)) (h90 : mg M 90 k = (pMu (dAdd D mu) : Int)) (hold : ∀ i, i < pPt D → mg M 91 (10 * k + i) = (pMy D i : Int) ∧ ∀ j, j < pMy D i → mg M 92 (40 * k + 4 * i + j) = (pWh D i j : Int)) : wp (j_Model_readPart_88 M 80 (k : Int) (pPt D : Int)) (fun t => Fr (WMk k) M t.2 ∧ RPt n b k (pPt D + 1) (spOr n b 4 1 (spIns n b (zN n b 2 (.inl (p, tk)), dAdd D mu))) t) := by
  have hs := h.1.1
  unfold j_Model_readPart_88
  rw [show cI 80 = 79 from rfl, p_79_14 hs, show cI 92 = 91 from rfl, n_91 hs, w32_s (x := 10 * (k : Int)) (by omega) (by omega), w32_s (x := 10 * (k : Int) + (pPt D : Int)) (by omega) (by omega), show (10 * (k : Int) + (pPt D : Int)).toNat = 10 * k + pPt D by omega]
  refine wI (by decide) (wI (by omega) (wL ?_))
  have f0 : Fr (fun c x => c = 91 ∧ x = 10 * k + pPt D) M (mp M 91 (10 * k + pPt D) 0) := Fr_mp ⟨rfl, rfl⟩
  have hF : FMi k (pPt D) (dAdd D mu) (mp M 91 (10 * k + pPt D) 0) := by
    refine ⟨by rw [mg_mp_n (by omega)]; exact h89, by rw [mg_mp_n (by omega)]; exact h90, fun i hi => ?_⟩
    have hi : i < pPt D + 1 := hi
    show _ = (pMy D i : Int) ∧ ∀ j, j < pMy D i → _ = (pWh D i j : Int)
    by_cases e : i = pPt D
    · have z := hO.2.2.2 i (by omega)
      rw [z]
      exact ⟨by rw [e, mg_mp_s]; rfl, fun j hj => by omega⟩
    · have o := hold i (by omega)
      exact ⟨by rw [mg_mp_n (by omega)]; exact o.1, fun j hj => by rw [mg_mp_n (by omega)]; exact o.2 j hj⟩
  have hdo := dA_ok (m := mu) hO h1
  have fin := sp_in_ok (n := n) (b := b) (q := (zN n b 2 (.inl (p, tk)), dAdd D mu)) hdo (show 1 ≤ pPt D + 1 by omega)
  refine wK (m_or (tk := tk) ho hk h1 (RM_fr h f0 (fun c x w => by unfold isP; omega)) hF hdo rfl (hO.2.2.2 _ (Nat.le_refl _))) (fun t ht => ?_)
  obtain ⟨M', hf, ht⟩ := ht
  have f1 : Fr (WMk k) M M' := Fr_tr (Fr_sub f0 (fun c x w => by unfold WMk; omega)) hf
  rcases ht with ⟨y, e1, e2, e3, e4⟩ | ⟨e, e1, e2, e3⟩
  · rw [e2]
    have hs' := e3.1.1
    show wp (if mg M' 79 12 ≠ 0 then _ else none) _
    rw [p_79_12 hs', show cI 90 = 89 from rfl, n_89 hs', Int.toNat_natCast, w32_s (by omega) (by omega)]
    have fz : Fr (fun c x => c = 89 ∧ x = k) M' (mp M' 89 k ((pPt D : Int) + 1)) := Fr_mp ⟨rfl, rfl⟩
    refine wI (by decide) (wI (by omega) (wL (wS ⟨Fr_tr f1 (Fr_sub fz (fun c x w => by unfold WMk; omega)), ?_⟩)))
    unfold RPt
    rw [e1]
    refine ⟨rfl, RM_fr e3 fz (fun c x w => by unfold isP; omega), ⟨?_, ?_, fun i hi => ⟨?_, fun j hj => ?_⟩⟩, fin.1, fin.2⟩
    · show mg (mp M' 89 k ((pPt D : Int) + 1)) 89 k = _
      rw [mg_mp_s]; omega
    · show mg (mp M' 89 k ((pPt D : Int) + 1)) 90 k = _
      rw [mg_mp_n (by omega)]; exact e4.2.1
    · show mg (mp M' 89 k ((pPt D : Int) + 1)) 91 _ = _
      rw [mg_mp_n (by omega)]; exact (e4.2.2 i hi).1
    · show mg (mp M' 89 k ((pPt D : Int) + 1)) 92 _ = _
      rw [mg_mp_n (by omega)]; exact (e4.2.2 i hi).2 j hj
  · rw [e2]
    refine wS ⟨f1, ?_⟩
    unfold RPt
    rw [e1]
    exact ⟨rfl, e3⟩
theorem m_j68 (ho : OKt n b) (hk : k < 10) (h : RM false n b p M) (hO : OKf D) (h1 : pPt D < 10) (hF : FMi k (pPt D) D M) (mu : Bool) : wp (j_Model_readPart_68 M 80 (k : Int) (pPt D : Int) (if mu = true then 1 else 0)) (fun t => Fr (WMk k) M t.2 ∧ RPt n b k (pPt D + 1) (spOr n b 4 1 (spIns n b (zN n b 2 (.inl (p, tk)), dAdd D mu))) t) := by
  unfold j_Model_readPart_68
  cases mu with
  | false => exact wI (by decide) (m_j88 ho hk h hO h1 hF.1 hF.2.1 hF.2.2)
  | true =>
    have hs := h.1.1
    have hp : 2 ^ pPt D ≤ 2 ^ 10 := Nat.pow_le_pow_right (by decide) (by omega)
    have hm := hO.2.1
    have e10 : 2 ^ 10 = 1024 := rfl
    have eb : bOr (pMu D : Int) (bShl 1 (pPt D : Int)) = ((pMu D + 2 ^ pPt D : Nat) : Int) := by
      rw [bShl_1 _ (by omega), bOr_n (by omega) (by omega)]
      have := Nat.two_pow_add_eq_or_of_lt (i := pPt D) hm 1
      rw [Nat.mul_one] at this
      rw [Nat.or_comm, ← this]; omega
    refine wE (by decide) ?_
    rw [show cI 80 = 79 from rfl, p_79_13 hs, show cI 91 = 90 from rfl, n_90 hs, Int.toNat_natCast, hF.2.1, eb]
    have f0 : Fr (fun c x => c = 90 ∧ x = k) M (mp M 90 k ((pMu D + 2 ^ pPt D : Nat) : Int)) := Fr_mp ⟨rfl, rfl⟩
    refine wI (by decide) (wI (by omega) (wL (wM (m_j88 (tk := tk) (mu := true) ho hk (RM_fr h f0 (fun c x w => by unfold isP; omega)) hO h1 (by rw [mg_mp_n (by omega)]; exact hF.1) (by rw [mg_mp_s]; rfl) (fun i hi => ⟨by rw [mg_mp_n (by omega)]; exact (hF.2.2 i hi).1, fun j hj => by rw [mg_mp_n (by omega)]; exact (hF.2.2 i hi).2 j hj⟩)) (fun t ht => ⟨Fr_tr (Fr_sub f0 (fun c x w => by unfold WMk; omega)) ht.1, ht.2⟩))))
theorem m_part (ho : OKt n b) (hk : k < 10) (h : RM false n b p M) (hO : OKf D) (hF : FMi k (pPt D) D M) : wp (f_Model_readPart M 80 (k : Int)) (fun t => Fr (WMk k) M t.2 ∧ RPt n b k (pPt D + 1) (spPart n b (.inl (p, tk), D)) t ∧ (t.1 ≠ 0 → pPt D < 10)) := by
  have hs := h.1.1
  have h10 := hO.1
  unfold f_Model_readPart spPart
  rw [show cI 80 = 79 from rfl, p_79_12 hs, show cI 90 = 89 from rfl, n_89 hs, Int.toNat_natCast, hF.1]
  refine wI (by decide) (wI (by omega) (wC (fun c => ?_) (fun c => ?_)))
  · have h1 : pPt D < 10 := by omega
    rw [if_pos (show pPt (Sum.inl (p, tk), D).2 < 10 from h1)]
    show wp _ (fun t => Fr (WMk k) M t.2 ∧ RPt n b k (pPt D + 1) (spOr n b 4 1 (spIns n b (zN n b 2 (spMs n b (.inl (tEn n b p, tks n b 2 (tEn n b p) tk))), dAdd D (zW n b 2 (txs 1) (.inl (tEn n b p, tks n b 2 (tEn n b p) tk)))))) t ∧ (t.1 ≠ 0 → pPt D < 10))
    refine wL (wK (n_next ho h rfl) (fun m1 g1 => ?_))
    obtain ⟨g1, f1⟩ := g1
    have hF1 : FMi k (pPt D) D m1 := FMi_fr hF f1 (fun c x w => by unfold WLm at w; omega)
    generalize tks n b 2 (tEn n b p) tk = tk1
    generalize tEn n b p = p1 at *
    rw [n_isWord ho g1 (w := 1) (tk := tk1) (by decide) m_w1, Option.bind_some, n_isWord ho g1 (w := 2) (tk := tk1) (by decide) m_w2, Option.bind_some]
    have fs := fun (t : Int × Mm) (w : Fr (WMk k) m1 t.2) => Fr_tr (Fr_sub f1 (fun c x w => WLm_k w)) w
    unfold spMs
    cases w1 : zW n b 2 (txs 1) (.inl (p1, tk1)) with
    | true =>
      rw [if_pos (Or.inl rfl)]
      refine wI (by decide) (wM (m_j68 (tk := tk1) ho hk g1 hO h1 hF1 true) (fun t ht => ⟨fs t ht.1, ht.2, fun _ => h1⟩))
    | false =>
      refine wE (by decide) ?_
      cases w2 : zW n b 2 (txs 2) (.inl (p1, tk1)) with
      | true =>
        rw [if_pos (Or.inr rfl)]
        refine wI (by decide) (wM (m_j68 (tk := tk1) ho hk g1 hO h1 hF1 false) (fun t ht => ⟨fs t ht.1, ht.2, fun _ => h1⟩))
      | false =>
        refine wE (by decide) ?_
        rw [if_neg (show ¬ (false = true ∨ false = true) by decide), n_fails g1, Option.bind_some]
        refine (wS ⟨fs _ (Fr_sub fl_fr (fun c x w => WFl_k w)), ?_, fun _ => h1⟩)
        have e1 : (spIns n b (zN n b 2 (zF n b 1 (.inl (p1, tk1))), dAdd D false)).1 = .inr (1, (tPl n b p1 : Int)) := spIns_inr (q := (zN n b 2 (zF n b 1 (.inl (p1, tk1))), dAdd D false)) (fun e => e)
        unfold RPt
        rw [spOr_inr (by rw [e1]; exact fun e => e), e1]
        exact ⟨rfl, fl_ok g1.1⟩
  · rw [if_neg (show ¬ pPt (Sum.inl (p, tk), D).2 < 10 by show ¬ pPt D < 10; omega), n_fails h, Option.bind_some]
    exact wS ⟨Fr_sub fl_fr (fun c x w => WFl_k w), ⟨rfl, fl_ok h.1⟩, fun e => absurd rfl e⟩
theorem m_parts (ho : OKt n b) (hk : k < 10) (h : RM false n b p M) (hO : OKf D) (h0 : pPt D = 0) (hF : FMi k (pPt D) D M) : wp (loopN (l_Model_readPiece_205 80 (k : Int)) FU M) (fun t => ∃ M', Fr (WMk k) M M' ∧ ((∃ y, (spParts n b 800 (.inl (p, tk), D)).1 = .inl y ∧ t = .inr M' ∧ RM false n b y.1 M' ∧ FMi k (pPt (spParts n b 800 (.inl (p, tk), D)).2) (spParts n b 800 (.inl (p, tk), D)).2 M' ∧ OKf (spParts n b 800 (.inl (p, tk), D)).2) ∨ (∃ e, (spParts n b 800 (.inl (p, tk), D)).1 = .inr e ∧ t = .inl (0, M') ∧ FM n b e M'))) := by
  obtain ⟨fin, hfin⟩ : ∃ fin, fin = spParts n b 800 (.inl (p, tk), D) := ⟨_, rfl⟩
  rw [← hfin]
  refine wp_loop (fun j s => Fr (WMk k) M s ∧ ∃ p' tk' D', RM false n b p' s ∧ FMi k (pPt D') D' s ∧ OKf D' ∧ pPt D' = j ∧ fin = spParts n b (800 - j) (.inl (p', tk'), D')) 10 (by decide) ⟨Fr_rf, p, tk, D, h, hF, hO, h0, hfin⟩ ?_
  rintro j m hj ⟨hf, p', tk', D', h1, hF1, hO1, hp1, hq⟩
  have e4 : 800 - j = (800 - (j + 1)) + 1 := by omega
  have un : fin = if zK n b 2 (.inl (p', tk')) = 44 then spParts n b (800 - (j + 1)) (spPart n b (.inl (p', tk'), D')) else (.inl (p', tk'), D') := by rw [hq, e4]; rfl
  unfold l_Model_readPiece_205
  rw [n_isSign (tk := tk') h1 (by decide) (by decide), Option.bind_some, show mD false = 2 from rfl]
  by_cases c : zK n b 2 (.inl (p', tk')) = 44
  · rw [if_pos c] at un ⊢
    refine wE (by decide) (wK (m_part (tk := tk') ho hk h1 hO1 hF1) (fun t ht => ?_))
    obtain ⟨g1, g2, g3⟩ := ht
    unfold RPt at g2
    have f2 := Fr_tr hf g1
    cases hz : (spPart n b (.inl (p', tk'), D')).1 with
    | inl y =>
      rw [hz] at g2
      obtain ⟨g4, g5, g6, g7, g8⟩ := g2
      have := g3 (by rw [g4]; decide)
      refine wI (by rw [g4]; decide) (wSl ⟨by omega, f2, y.1, y.2, (spPart n b (.inl (p', tk'), D')).2, g5, by rw [g8]; exact g6, g7, by omega, ?_⟩)
      rw [un, show (Sum.inl (y.1, y.2) : Ts) = .inl y from rfl, ← hz]
    | inr e =>
      rw [hz] at g2
      obtain ⟨g4, g5⟩ := g2
      refine wE (by rw [g4]; decide) (wSr ⟨t.2, f2, Or.inr ⟨e, ?_, rfl, g5⟩⟩)
      rw [un, spParts_inr (by rw [hz]; exact fun e => e), hz]
  · rw [if_neg c] at un ⊢
    exact wI (by decide) (wSr ⟨m, hf, Or.inl ⟨(p', tk'), by rw [un], rfl, h1, by rw [un]; exact hF1, by rw [un]; exact hO1⟩⟩)
end MQ
