/-! the reference's load -/
section MLd
variable {n : Nat} {b : Nat → Int} {p tk m : Nat} {M : Mm} {lb : Nat → PcD}
def PQm (n : Nat) (b : Nat → Int) (m : Nat) (M : Mm) (q : Ts × PcD) (t : Int × Mm) : Prop := Fr (WPm m) M t.2 ∧ match q.1 with
  | .inl y => t.1 = 1 ∧ RM false n b y.1 t.2 ∧ PM m q.2 t.2 ∧ OKn (pNm q.2) ∧ (pPt q.2 ≤ 10 ∧ ∀ i, i < pPt q.2 → pMy q.2 i ≤ 4) ∧ (∀ i, i < 10 → mg t.2 93 (10 * m + i) = 0) ∧ mg t.2 79 37 = (m : Int) + 1
  | .inr e => t.1 = 0 ∧ FM n b e t.2
theorem PQm_bad {q : Ts × PcD} {e : Int × Int} {M' : Mm} (h : q.1 = .inr e) (f : Fr (WPm m) M M') (hF : FM n b e M') : PQm n b m M q (0, M') := by
  unfold PQm; rw [h]; exact ⟨f, rfl, hF⟩
theorem WLm_m {m c x : Nat} (h : WLm c x) : WPm m c x := by unfold WLm at h; unfold WPm; omega
theorem WFl_m {m c x : Nat} (h : WFl c x) : WPm m c x := by unfold WFl at h; unfold WPm; omega
theorem WMk_m {m c x : Nat} (h : WMk m c x) : WPm m c x := by unfold WMk at h; unfold WPm; omega
theorem m_rdPiece (ho : OKt n b) (h : RM false n b p M) (h37 : mg M 79 37 = (m : Int)) (hm : m < 10) (hN : ∀ o, o < m → mg M 85 o = c8 (pNm (lb o)) ∧ OKn (pNm (lb o))) : wp (f_Model_readPiece M 80) (PQm n b m M (spPiece n b m lb (.inl (p, tk)))) := by
  obtain ⟨σ, hσ⟩ : ∃ σ : Ts, σ = .inl (p, tk) := ⟨_, rfl⟩
  rw [← hσ]
  have hn1 : zN n b 2 σ = .inl (tEn n b p, tks n b 2 (tEn n b p) tk) := by rw [hσ]; rfl
  unfold f_Model_readPiece
  rw [show cI 80 = 79 from rfl, h37]
  refine wI (by omega) (wL (wK (n_next ho h rfl) (fun m1 g1 => ?_)))
  obtain ⟨g1, f1⟩ := g1
  generalize tks n b 2 (tEn n b p) tk = tk1 at hn1
  generalize tEn n b p = p1 at *
  have F1 : Fr (WPm m) M m1 := Fr_sub f1 (fun c x w => WLm_m w)
  have s1 := g1.1.1
  have a37 : mg m1 79 37 = (m : Int) := by rw [f1.1 _ _ (by unfold WLm; omega)]; exact h37
  have aN : ∀ o, o < m → mg m1 85 o = c8 (pNm (lb o)) ∧ OKn (pNm (lb o)) := fun o hoo => ⟨by rw [f1.1 _ _ (by unfold WLm; omega)]; exact (hN o hoo).1, (hN o hoo).2⟩
  have eN : zNam n b m lb (zN n b 2 σ) = zN n b 2 (if zK n b 2 (.inl (p1, tk1)) = -3 ∧ zWd n b (.inl (p1, tk1)) = false then (if hasN m lb (tLs n b p1) = true then zF n b 2 (.inl (p1, tk1)) else .inl (p1, tk1)) else zF n b 1 (.inl (p1, tk1))) := by rw [hn1]; rfl
  have hWd : zWd n b (.inl (p1, tk1)) = (decide (tTg n b 2 p1 = 2) && mW false (tLs n b p1)) := by
    show ((decide (tTg n b 2 p1 = 2) && decide (tLs n b p1 = txs 0)) || (decide (tTg n b 2 p1 = 2) && decide (tLs n b p1 = txs 1)) || (decide (tTg n b 2 p1 = 2) && decide (tLs n b p1 = txs 2)) || (decide (tTg n b 2 p1 = 2) && decide (tLs n b p1 = txs 3))) = _
    unfold mW
    by_cases c : tTg n b 2 p1 = 2
    · rw [decide_eq_true c]
      simp only [Bool.true_and, Bool.false_eq_true, if_false, Bool.decide_or, Bool.or_assoc]
    · rw [decide_eq_false c]; rfl
  rw [show mg m1 79 32 = mTk false n b p1 from g1.2.2.2.2.1]
  by_cases c : mTk false n b p1 = 3
  rotate_left
  · rw [if_neg c, n_fails g1, Option.bind_some]
    refine wS (PQm_bad (e := (1, (tPl n b p1 : Int))) (sq0 ?_) (Fr_tr F1 (Fr_sub fl_fr (fun c x w => WFl_m w))) (fl_ok g1.1))
    rw [eN, if_neg]
    · rfl
    · rintro ⟨q1, q2⟩
      refine c (mTk_3.mpr ?_)
      have := (ckd_m3 ho).mp q1
      rw [hWd, decide_eq_true this] at q2
      exact ⟨this, by simpa using q2⟩
  rw [if_pos c]
  obtain ⟨c1, c2⟩ := mTk_3.mp c
  have okn := (t_2 ho.1 c1).2.2.2.2
  have a34 : mg m1 79 34 = c8 (tLs n b p1) := g1.2.2.2.2.2.1 c1
  rw [m_names s1 a37 hm aN okn a34 _ (n_fails g1 2), Option.bind_some]
  rw [if_pos ⟨(ckd_m3 ho).mpr c1, by rw [hWd, c2, Bool.and_false]⟩] at eN
  cases hh : hasN m lb (tLs n b p1) with
  | true =>
    rw [hh, if_pos rfl] at eN
    rw [if_pos rfl]
    exact wS (PQm_bad (e := (2, (tPl n b p1 : Int))) (sq0 eN) (Fr_tr F1 (Fr_sub fl_fr (fun c x w => WFl_m w))) (fl_ok g1.1))
  | false =>
  rw [hh, if_neg (by decide)] at eN
  rw [if_neg (show ¬ (false = true) by decide)]
  show wp (if mg m1 79 8 ≠ 0 then _ else none) _
  rw [p_79_8 s1, show cI 86 = 85 from rfl, n_85 s1, Int.toNat_natCast, a34]
  refine wI (by decide) (wI (by omega) (wL ?_))
  have f2 : Fr (fun c x => c = 85 ∧ x = m) m1 (mp m1 85 m (c8 (tLs n b p1))) := Fr_mp ⟨rfl, rfl⟩
  have e85 : mg (mp m1 85 m (c8 (tLs n b p1))) 85 m = c8 (tLs n b p1) := by rw [mg_mp_s]
  have g2 := RM_fr g1 f2 (fun c x w => by unfold isP; omega)
  have F2 : Fr (WPm m) M (mp m1 85 m (c8 (tLs n b p1))) := Fr_tr F1 (Fr_sub f2 (fun c x w => by unfold WPm; omega))
  have a37' : mg (mp m1 85 m (c8 (tLs n b p1))) 79 37 = (m : Int) := by rw [mg_mp_n (by omega)]; exact a37
  generalize mp m1 85 m (c8 (tLs n b p1)) = m2 at *
  refine wK (n_next ho g2 rfl) (fun m3 g3 => ?_)
  obtain ⟨g3, f3⟩ := g3
  have F3 := Fr_tr F2 (Fr_sub f3 (fun c x w => WLm_m w))
  have eN : zNam n b m lb (zN n b 2 σ) = .inl (tEn n b p1, tks n b 2 (tEn n b p1) tk1) := eN
  obtain ⟨tk2, hk2⟩ : ∃ tk2, tk2 = tks n b 2 (tEn n b p1) tk1 := ⟨_, rfl⟩
  rw [← hk2] at eN
  obtain ⟨p2, hp2⟩ : ∃ p2, p2 = tEn n b p1 := ⟨_, rfl⟩
  rw [← hp2] at eN g3
  rw [n_isSign (tk := tk2) g3 (by decide) (by decide), Option.bind_some, show mD false = 2 from rfl]
  have ez1 : zP1 n b m lb σ = zN n b 2 (if zK n b 2 (.inl (p2, tk2)) = 58 then .inl (p2, tk2) else zF n b 1 (.inl (p2, tk2))) := by unfold zP1; rw [eN]; rfl
  by_cases c3 : zK n b 2 (.inl (p2, tk2)) = 58
  rotate_left
  · rw [if_neg c3] at ez1 ⊢
    rw [n_fails g3, Option.bind_some]
    exact wE (by decide) (wS (PQm_bad (e := (1, (tPl n b p2 : Int))) (sq1 ez1) (Fr_tr F3 (Fr_sub fl_fr (fun c x w => WFl_m w))) (fl_ok g3.1)))
  rw [if_pos c3] at ez1 ⊢
  refine wI (by decide) (wK (n_next ho g3 rfl) (fun m4 g4 => ?_))
  obtain ⟨g4, f4⟩ := g4
  have F4 := Fr_tr F3 (Fr_sub f4 (fun c x w => WLm_m w))
  have ez1 : zP1 n b m lb σ = .inl (tEn n b p2, tks n b 2 (tEn n b p2) tk2) := ez1
  generalize tks n b 2 (tEn n b p2) tk2 = tk3 at ez1
  generalize tEn n b p2 = p3 at ez1 g4
  have e85 : mg m4 85 m = c8 (tLs n b p1) := by rw [f4.1 _ _ (by unfold WLm; omega), f3.1 _ _ (by unfold WLm; omega)]; exact e85
  have a37 : mg m4 79 37 = (m : Int) := by rw [f4.1 _ _ (by unfold WLm; omega), f3.1 _ _ (by unfold WLm; omega)]; exact a37'
  refine wK (n_num ho g4 tk3) (fun q5 g5 => ?_)
  rcases g5 with ⟨z1, z2, z3⟩ | ⟨e, z1, z2, z3, z4⟩
  rotate_left
  · exact wE (by rw [z2]; decide) (wS (PQm_bad (e := e) (sq2 (by unfold zP2; rw [ez1]; exact z1)) (Fr_tr F4 (Fr_sub z4 (fun c x w => WFl_m w))) z3))
  subst z2
  have s4 := g4.1.1
  refine wI (show (1 : Int) ≠ 0 by decide) ?_
  show wp (if mg m4 79 9 ≠ 0 then _ else none) _
  simp only []
  rw [p_79_9 s4, show cI 87 = 86 from rfl, n_86 s4, z3]
  refine wI (by decide) (wI (by omega) (wL ?_))
  have f5 : Fr (fun c x => c = 86 ∧ x = m) m4 (mp m4 86 m (tVl n b p3)) := Fr_mp ⟨rfl, rfl⟩
  have e86 : mg (mp m4 86 m (tVl n b p3)) 86 m = tVl n b p3 := by rw [mg_mp_s]
  have e85 : mg (mp m4 86 m (tVl n b p3)) 85 m = c8 (tLs n b p1) := by rw [mg_mp_n (by omega)]; exact e85
  have a37 : mg (mp m4 86 m (tVl n b p3)) 79 37 = (m : Int) := by rw [mg_mp_n (by omega)]; exact a37
  have g5 := RM_fr g4 f5 (fun c x w => by unfold isP; omega)
  have F5 : Fr (WPm m) M (mp m4 86 m (tVl n b p3)) := Fr_tr F4 (Fr_sub f5 (fun c x w => by unfold WPm; omega))
  generalize mp m4 86 m (tVl n b p3) = m5 at *
  refine wK (n_next ho g5 rfl) (fun m6 g6 => ?_)
  obtain ⟨g6, f6⟩ := g6
  have F6 := Fr_tr F5 (Fr_sub f6 (fun c x w => WLm_m w))
  have ez2 : zP2 n b m lb σ = .inl (tEn n b p3, tks n b 2 (tEn n b p3) tk3) := by unfold zP2; rw [ez1]; exact z1
  obtain ⟨tk4, hk4⟩ : ∃ tk4, tk4 = tks n b 2 (tEn n b p3) tk3 := ⟨_, rfl⟩
  rw [← hk4] at ez2
  obtain ⟨p4, hp4⟩ : ∃ p4, p4 = tEn n b p3 := ⟨_, rfl⟩
  rw [← hp4] at ez2 g6
  have e85 : mg m6 85 m = c8 (tLs n b p1) := by rw [f6.1 _ _ (by unfold WLm; omega)]; exact e85
  have e86 : mg m6 86 m = tVl n b p3 := by rw [f6.1 _ _ (by unfold WLm; omega)]; exact e86
  have a37 : mg m6 79 37 = (m : Int) := by rw [f6.1 _ _ (by unfold WLm; omega)]; exact a37
  refine wK (n_num ho g6 tk4) (fun q7 g7 => ?_)
  rcases g7 with ⟨y1, y2, y3⟩ | ⟨e, y1, y2, y3, y4⟩
  rotate_left
  · exact wE (by rw [y2]; decide) (wS (PQm_bad (e := e) (sq3 (by unfold zP3; rw [ez2]; exact y1)) (Fr_tr F6 (Fr_sub y4 (fun c x w => WFl_m w))) y3))
  subst y2
  have s6 := g6.1.1
  refine wI (show (1 : Int) ≠ 0 by decide) ?_
  show wp (if mg m6 79 10 ≠ 0 then _ else none) _
  simp only []
  rw [p_79_10 s6, show cI 88 = 87 from rfl, n_87 s6, y3]
  refine wI (by decide) (wI (by omega) (wL ?_))
  have f7 : Fr (fun c x => c = 87 ∧ x = m) m6 (mp m6 87 m (tVl n b p4)) := Fr_mp ⟨rfl, rfl⟩
  have e87 : mg (mp m6 87 m (tVl n b p4)) 87 m = tVl n b p4 := by rw [mg_mp_s]
  have e85 : mg (mp m6 87 m (tVl n b p4)) 85 m = c8 (tLs n b p1) := by rw [mg_mp_n (by omega)]; exact e85
  have e86 : mg (mp m6 87 m (tVl n b p4)) 86 m = tVl n b p3 := by rw [mg_mp_n (by omega)]; exact e86
  have a37 : mg (mp m6 87 m (tVl n b p4)) 79 37 = (m : Int) := by rw [mg_mp_n (by omega)]; exact a37
  have g7 := RM_fr g6 f7 (fun c x w => by unfold isP; omega)
  have F7 : Fr (WPm m) M (mp m6 87 m (tVl n b p4)) := Fr_tr F6 (Fr_sub f7 (fun c x w => by unfold WPm; omega))
  generalize mp m6 87 m (tVl n b p4) = m7 at *
  refine wK (n_next ho g7 rfl) (fun m8 g8 => ?_)
  obtain ⟨g8, f8⟩ := g8
  have F8 := Fr_tr F7 (Fr_sub f8 (fun c x w => WLm_m w))
  have ez3 : zP3 n b m lb σ = .inl (tEn n b p4, tks n b 2 (tEn n b p4) tk4) := by unfold zP3; rw [ez2]; exact y1
  obtain ⟨tk5, hk5⟩ : ∃ tk5, tk5 = tks n b 2 (tEn n b p4) tk4 := ⟨_, rfl⟩
  rw [← hk5] at ez3
  obtain ⟨p5, hp5⟩ : ∃ p5, p5 = tEn n b p4 := ⟨_, rfl⟩
  rw [← hp5] at ez3 g8
  have e85 : mg m8 85 m = c8 (tLs n b p1) := by rw [f8.1 _ _ (by unfold WLm; omega)]; exact e85
  have e86 : mg m8 86 m = tVl n b p3 := by rw [f8.1 _ _ (by unfold WLm; omega)]; exact e86
  have e87 : mg m8 87 m = tVl n b p4 := by rw [f8.1 _ _ (by unfold WLm; omega)]; exact e87
  have a37 : mg m8 79 37 = (m : Int) := by rw [f8.1 _ _ (by unfold WLm; omega)]; exact a37
  refine wK (n_num ho g8 tk5) (fun q9 g9 => ?_)
  rcases g9 with ⟨x1, x2, x3⟩ | ⟨e, x1, x2, x3, x4⟩
  rotate_left
  · exact wE (by rw [x2]; decide) (wS (PQm_bad (e := e) (sq4 (by unfold zP4; rw [ez3]; exact x1)) (Fr_tr F8 (Fr_sub x4 (fun c x w => WFl_m w))) x3))
  subst x2
  have s8 := g8.1.1
  refine wI (show (1 : Int) ≠ 0 by decide) ?_
  show wp (if mg m8 79 11 ≠ 0 then _ else none) _
  simp only []
  rw [p_79_11 s8, show cI 89 = 88 from rfl, n_88 s8, x3]
  refine wI (by decide) (wI (by omega) (wL ?_))
  have t1 : Sh (mp m8 88 m (tVl n b p5)) := Sh_mp s8 (by unfold isP; omega)
  rw [p_79_12 t1, show cI 90 = 89 from rfl, n_89 t1]
  refine wI (by decide) (wI (by omega) (wL ?_))
  have t2 : Sh (mp (mp m8 88 m (tVl n b p5)) 89 m 0) := Sh_mp t1 (by unfold isP; omega)
  rw [p_79_13 t2, show cI 91 = 90 from rfl, n_90 t2]
  refine wI (by decide) (wI (by omega) (wL ?_))
  have f9 : Fr (fun c x => 88 ≤ c ∧ c ≤ 90 ∧ x = m) m8 (mp (mp (mp m8 88 m (tVl n b p5)) 89 m 0) 90 m 0) := Fr_wr (Fr_wr (Fr_mp (by omega)) (by omega)) (by omega)
  have e88 : mg (mp (mp (mp m8 88 m (tVl n b p5)) 89 m 0) 90 m 0) 88 m = tVl n b p5 := by rw [mg_mp_n (by omega), mg_mp_n (by omega), mg_mp_s]
  have e89 : mg (mp (mp (mp m8 88 m (tVl n b p5)) 89 m 0) 90 m 0) 89 m = 0 := by rw [mg_mp_n (by omega), mg_mp_s]
  have e90 : mg (mp (mp (mp m8 88 m (tVl n b p5)) 89 m 0) 90 m 0) 90 m = 0 := by rw [mg_mp_s]
  generalize mp (mp (mp m8 88 m (tVl n b p5)) 89 m 0) 90 m 0 = m9 at *
  have e85 : mg m9 85 m = c8 (tLs n b p1) := by rw [f9.1 _ _ (by omega)]; exact e85
  have e86 : mg m9 86 m = tVl n b p3 := by rw [f9.1 _ _ (by omega)]; exact e86
  have e87 : mg m9 87 m = tVl n b p4 := by rw [f9.1 _ _ (by omega)]; exact e87
  have a37 : mg m9 79 37 = (m : Int) := by rw [f9.1 _ _ (by omega)]; exact a37
  have g9 := RM_fr g8 f9 (fun c x w => by unfold isP; omega)
  have F9 : Fr (WPm m) M m9 := Fr_tr F8 (Fr_sub f9 (fun c x w => by unfold WPm; omega))
  refine wK (n_next ho g9 rfl) (fun m10 g10 => ?_)
  obtain ⟨g10, f10⟩ := g10
  have F10 := Fr_tr F9 (Fr_sub f10 (fun c x w => WLm_m w))
  have ez4 : zP4 n b m lb σ = .inl (tEn n b p5, tks n b 2 (tEn n b p5) tk5) := by unfold zP4; rw [ez3]; exact x1
  generalize tks n b 2 (tEn n b p5) tk5 = tk6 at ez4
  generalize tEn n b p5 = p6 at ez4 g10
  have hF : FMi m (pPt (dP n b m lb σ)) (dP n b m lb σ) m10 := by
    refine ⟨?_, ?_, fun i hi => absurd hi (Nat.not_lt_zero _)⟩
    · rw [f10.1 _ _ (by unfold WLm; omega)]; exact e89
    · rw [f10.1 _ _ (by unfold WLm; omega)]; exact e90
  have hdO : OKf (dP n b m lb σ) := ⟨by show 0 ≤ 10; omega, by show 0 < 2 ^ 0; decide, fun i => by show 0 ≤ 4; omega, fun i _ => rfl⟩
  refine wK (m_parts (tk := tk6) ho hm g10 hdO rfl hF) (fun t ht => ?_)
  obtain ⟨m11, f11, ht⟩ := ht
  rw [← ez4] at ht
  have F11 := Fr_tr F10 (Fr_sub f11 (fun c x w => WMk_m w))
  rcases ht with ⟨y, k1, k2, k3, k4, k5⟩ | ⟨e, k1, k2, k3⟩
  rotate_left
  · rw [k2]
    exact wS (PQm_bad (sq5 k1) F11 k3)
  rw [k2]
  show wp ((f_Model_isSign m11 80 59).bind _) _
  rw [n_isSign (tk := y.2) k3 (by decide) (by decide), Option.bind_some, show mD false = 2 from rfl]
  have ezf : (spPiece n b m lb σ).1 = zN n b 2 (if zK n b 2 (.inl (y.1, y.2)) = 59 then .inl y else zF n b 1 (.inl y)) := by
    unfold spPiece
    show zTake n b 2 59 (spParts n b 800 (zP4 n b m lb σ, dP n b m lb σ)).1 = _
    rw [k1]; rfl
  by_cases c9 : zK n b 2 (.inl (y.1, y.2)) = 59
  rotate_left
  · rw [if_neg c9] at ezf ⊢
    rw [n_fails k3, Option.bind_some]
    exact wE (by decide) (wS (PQm_bad (e := (1, (tPl n b y.1 : Int))) ezf (Fr_tr F11 (Fr_sub fl_fr (fun c x w => WFl_m w))) (fl_ok k3.1)))
  rw [if_pos c9] at ezf ⊢
  refine wI (by decide) (wK (m_chairs0 k3.1.1 hm) (fun m12 g12 => ?_))
  obtain ⟨f12, h12⟩ := g12
  have e37 : mg m12 79 37 = (m : Int) := by rw [f12.1 _ _ (by omega), f11.1 _ _ (by unfold WMk; omega), f10.1 _ _ (by unfold WLm; omega)]; exact a37
  rw [e37, w32_s (by omega) (by omega)]
  refine wL ?_
  have f13 : Fr (fun c x => c = 79 ∧ x = 37) m12 (mp m12 79 37 ((m : Int) + 1)) := Fr_mp ⟨rfl, rfl⟩
  have e37' : mg (mp m12 79 37 ((m : Int) + 1)) 79 37 = (m : Int) + 1 := by rw [mg_mp_s]
  have g13 : RM false n b y.1 (mp m12 79 37 ((m : Int) + 1)) := RM_fr (RM_fr k3 f12 (fun c x w => by unfold isP; omega)) f13 (fun c x w => by unfold isP; omega)
  generalize mp m12 79 37 ((m : Int) + 1) = m13 at *
  refine wK (n_next ho g13 rfl) (fun m14 g14 => wS ?_)
  obtain ⟨g14, f14⟩ := g14
  unfold PQm
  rw [ezf]
  have hh4 : hd4 (spPiece n b m lb σ).2 = hd4 (dP n b m lb σ) := hd_parts 800 _
  have d1 : pNm (spPiece n b m lb σ).2 = tLs n b p1 := (congrArg (fun z => z.1) hh4).trans (by show zL n b (zN n b 2 σ) = _; rw [hn1]; rfl)
  have d2 : pMi (spPiece n b m lb σ).2 = tVl n b p3 := (congrArg (fun z => z.2.1) hh4).trans (by show zV n b (zP1 n b m lb σ) = _; rw [ez1]; rfl)
  have d3 : pLi (spPiece n b m lb σ).2 = tVl n b p4 := (congrArg (fun z => z.2.2.1) hh4).trans (by show zV n b (zP2 n b m lb σ) = _; rw [ez2]; rfl)
  have d4 : pKe (spPiece n b m lb σ).2 = tVl n b p5 := (congrArg (fun z => z.2.2.2) hh4).trans (by show zV n b (zP3 n b m lb σ) = _; rw [ez3]; rfl)
  have ea : ∀ c, 85 ≤ c → c ≤ 88 → mg m14 c m = mg m9 c m := fun c a1 a2 => by
    rw [f14.1 _ _ (by unfold WLm; omega), f13.1 _ _ (by omega), f12.1 _ _ (by omega), f11.1 _ _ (by unfold WMk; omega), f10.1 _ _ (by unfold WLm; omega)]
  have eb : ∀ c x, 89 ≤ c → c ≤ 92 → mg m14 c x = mg m11 c x := fun c x a1 a2 => by
    rw [f14.1 _ _ (by unfold WLm; omega), f13.1 _ _ (by omega), f12.1 _ _ (by omega)]
  refine ⟨Fr_tr (Fr_tr F11 (Fr_sub f12 (fun c x w => by unfold WPm; omega))) (Fr_tr (Fr_sub f13 (fun c x w => by unfold WPm; omega)) (Fr_sub f14 (fun c x w => WLm_m w))), rfl, g14, ⟨?_, ?_, ?_, ?_, ?_, ?_, fun i hi => ⟨?_, fun j hj => ?_⟩⟩, ?_, ⟨k5.1, fun i _ => k5.2.2.1 i⟩, fun i hi => ?_, ?_⟩
  · rw [ea 85 (by omega) (by omega), e85, d1]
  · rw [ea 86 (by omega) (by omega), e86, d2]
  · rw [ea 87 (by omega) (by omega), e87, d3]
  · rw [ea 88 (by omega) (by omega), e88, d4]
  · rw [eb 89 _ (by omega) (by omega)]; exact k4.1
  · rw [eb 90 _ (by omega) (by omega)]; exact k4.2.1
  · rw [eb 91 _ (by omega) (by omega)]; exact (k4.2.2 i hi).1
  · rw [eb 92 _ (by omega) (by omega)]; exact (k4.2.2 i hi).2 j hj
  · rw [d1]; exact okn
  · rw [f14.1 _ _ (by unfold WLm; omega), f13.1 _ _ (by omega)]; exact h12 i hi
  · rw [f14.1 _ _ (by unfold WLm; omega)]; exact e37'
end MLd
