/-! the reference reads a PIECE, the text, and loads -/
def WPm (m c x : Nat) : Prop := (c = 79 ∧ 30 ≤ x ∧ x ≤ 37) ∨ (85 ≤ c ∧ c ≤ 90 ∧ x = m) ∨ ((c = 91 ∨ c = 93) ∧ 10 * m ≤ x ∧ x < 10 * m + 10) ∨ (c = 92 ∧ 40 * m ≤ x ∧ x < 40 * m + 40)
theorem WPm_p {m c x : Nat} (h : WPm m c x) : ¬ isP c x := by unfold WPm at h; unfold isP; omega
section MPc
variable {n : Nat} {b : Nat → Int} {p tk m : Nat} {M : Mm} {lb : Nat → PcD} {σ : Ts} {e : Int × Int}
theorem n_num (ho : OKt n b) (h : RM false n b p M) (tk : Nat) {lo hi : Int} : wp (f_Model_takes M 80 lo hi) (fun q => (zNum n b lo hi (.inl (p, tk)) = .inl (tEn n b p, tks n b 2 (tEn n b p) tk) ∧ q = (1, M) ∧ mg M 79 33 = tVl n b p) ∨ (∃ e, zNum n b lo hi (.inl (p, tk)) = .inr e ∧ q.1 = 0 ∧ FM n b e q.2 ∧ Fr WFl M q.2)) := by
  rw [n_takesF h, zNum_v ho]
  refine wS ?_
  by_cases c : tTg n b 2 p = 3
  · rw [if_pos c, if_pos c]
    by_cases c2 : lo ≤ tVl n b p ∧ tVl n b p ≤ hi
    · rw [if_pos c2, if_pos c2]; exact Or.inl ⟨rfl, rfl, h.2.2.2.2.2.2.1 c⟩
    · rw [if_neg c2, if_neg c2]; exact Or.inr ⟨_, rfl, rfl, fl_ok h.1, fl_fr⟩
  · rw [if_neg c, if_neg c]; exact Or.inr ⟨_, rfl, rfl, fl_ok h.1, fl_fr⟩
theorem sq5 (h : (spParts n b 800 (zP4 n b m lb σ, dP n b m lb σ)).1 = .inr e) : (spPiece n b m lb σ).1 = .inr e := by
  unfold spPiece
  show zTake n b 2 59 (spParts n b 800 (zP4 n b m lb σ, dP n b m lb σ)).1 = _
  rw [h]; exact zTake_inr (by decide) (fun h => h)
theorem sq4 (h : zP4 n b m lb σ = .inr e) : (spPiece n b m lb σ).1 = .inr e := by
  refine sq5 ?_
  rw [spParts_inr (by rw [h]; exact fun h => h)]; exact h
theorem sq3 (h : zP3 n b m lb σ = .inr e) : (spPiece n b m lb σ).1 = .inr e := by
  refine sq4 ?_
  unfold zP4; rw [h]; exact zNum_inr (fun h => h)
theorem sq2 (h : zP2 n b m lb σ = .inr e) : (spPiece n b m lb σ).1 = .inr e := by
  refine sq3 ?_
  unfold zP3; rw [h]; exact zNum_inr (fun h => h)
theorem sq1 (h : zP1 n b m lb σ = .inr e) : (spPiece n b m lb σ).1 = .inr e := by
  refine sq2 ?_
  unfold zP2; rw [h]; exact zNum_inr (fun h => h)
theorem sq0 (h : zNam n b m lb (zN n b 2 σ) = .inr e) : (spPiece n b m lb σ).1 = .inr e := by
  refine sq1 ?_
  unfold zP1; rw [h]; exact zTake_inr (by decide) (fun h => h)
theorem m_names (hs : Sh M) (h37 : mg M 79 37 = (m : Int)) (hm : m < 10) (hN : ∀ o, o < m → mg M 85 o = c8 (pNm (lb o)) ∧ OKn (pNm (lb o))) {l : List Int} (hl : OKn l) (h34 : mg M 79 34 = c8 l) (fl : Mm) (hfl : f_Model_fails M 80 2 = some (0, fl)) {z : Int} : loopN (l_Model_readPiece_41 M 80 z) FU 0 = some (if hasN m lb l = true then .inl (0, fl) else .inr ()) := by
  refine w_eq (wp_loop (fun j s => s = (j : Int) ∧ j ≤ m ∧ ∀ o, o < j → pNm (lb o) ≠ l) m (by omega) ⟨rfl, Nat.zero_le _, fun o ho => by omega⟩ ?_)
  rintro j s hj ⟨rfl, hjl, hall⟩
  unfold l_Model_readPiece_41
  rw [show cI 80 = 79 from rfl, h37, p_79_8 hs, show cI 86 = 85 from rfl, n_85 hs, Int.toNat_natCast, h34]
  refine wC (fun c => wSr ?_) (fun c => wI (by decide) (wI (by omega) ?_))
  · have : hasN m lb l = false := by
      unfold hasN
      rw [List.any_eq_false]
      intro o ho
      rw [List.mem_range] at ho
      rw [decide_eq_true_iff]
      exact hall o (by omega)
    rw [this]; rfl
  · have hN1 := hN j (by omega)
    rw [hN1.1]
    refine wC (fun c2 => ?_) (fun c2 => ?_)
    · rw [w32_s (by omega) (by omega)]
      refine wL (wSl ⟨by omega, by omega, by omega, fun o ho => ?_⟩)
      by_cases e : o = j
      · rw [e]; exact fun e2 => c2 (by rw [e2])
      · exact hall o (by omega)
    · rw [hfl]
      refine wSr ?_
      have e2 : c8 (pNm (lb j)) = c8 l := by
        by_cases e : c8 (pNm (lb j)) = c8 l
        · exact e
        · exact absurd e c2
      have : hasN m lb l = true := by
        unfold hasN
        rw [List.any_eq_true]
        exact ⟨j, List.mem_range.mpr (by omega), by rw [decide_eq_true_iff]; exact c8_inj hN1.2.2 hl.2 e2⟩
      rw [this]; rfl
theorem m_chairs0 (hs : Sh M) (hm : m < 10) : wp (loopN (l_Model_readPiece_241 80 (m : Int)) FU (0, M)) (fun t => Fr (fun c x => c = 93 ∧ 10 * m ≤ x ∧ x < 10 * m + 10) M t ∧ ∀ i, i < 10 → mg t 93 (10 * m + i) = 0) := by
  refine loop_fori (fun j s => s.1 = (j : Int) ∧ Fr (fun c x => c = 93 ∧ 10 * m ≤ x ∧ x < 10 * m + 10) M s.2 ∧ ∀ i, i < j → mg s.2 93 (10 * m + i) = 0) 10 (by decide) ⟨rfl, Fr_rf, fun i hi => by omega⟩ ?_ ?_
  · rintro j ⟨x, a⟩ hj ⟨hx, hf, hi⟩
    have hx : x = (j : Int) := hx
    have hf : Fr (fun c x => c = 93 ∧ 10 * m ≤ x ∧ x < 10 * m + 10) M a := hf
    have hi : ∀ i, i < j → mg a 93 (10 * m + i) = 0 := hi
    subst hx
    have hs1 : Sh a := Sh_fr hs hf (fun c x w => by unfold isP; omega)
    refine ⟨((j : Int) + 1, mp a 93 (10 * m + j) 0), ?_, by show (j : Int) + 1 = _; omega, Fr_wr hf ⟨rfl, by omega⟩, fun i hi2 => ?_⟩
    · unfold l_Model_readPiece_241
      simp only [lt]
      rw [show cI 80 = 79 from rfl, p_79_16 hs1, show cI 94 = 93 from rfl, n_93 hs1, w32_s (x := 10 * (m : Int)) (by omega) (by omega), w32_s (x := 10 * (m : Int) + (j : Int)) (by omega) (by omega), w32_s (x := (j : Int) + 1) (by omega) (by omega), show (10 * (m : Int) + (j : Int)).toNat = 10 * m + j by omega, if_neg (by omega), if_pos (by decide), if_pos (by omega)]
    · show mg (mp a 93 (10 * m + j) 0) 93 (10 * m + i) = 0
      by_cases e : i = j
      · rw [e, mg_mp_s]
      · rw [mg_mp_n (by omega)]; exact hi i (by omega)
  · rintro ⟨x, a⟩ ⟨hx, hf, hi⟩
    have hx : x = ((10 : Nat) : Int) := hx
    subst hx
    exact ⟨a, rfl, hf, hi⟩
end MPc
