/-! the class's seater: its rows -/
def HM (C : Nat) (W : Nat → Nat → Int) (u v sl : Nat → Int) (ro cf : Nat → Nat) (M : Mm) : Prop := mg M 65 6 = (C : Int) ∧ (∀ r c, 1 ≤ r → r ≤ 10 → 1 ≤ c → c ≤ 24 → mg M 66 ((r - 1) * 24 + (c - 1)) = W r c) ∧ (∀ r, r ≤ 10 → mg M 67 r = u r) ∧ (∀ c, c ≤ 24 → mg M 68 c = v c) ∧ (∀ c, c ≤ 24 → mg M 69 c = sl c) ∧ (∀ c, c ≤ 24 → mg M 70 c = (ro c : Int)) ∧ (∀ c, c ≤ 24 → mg M 71 c = (cf c : Int))
def WHu (c x : Nat) : Prop := (c = 65 ∧ x = 6) ∨ (66 ≤ c ∧ c ≤ 71)
theorem sh_WHu {M M' : Mm} (hs : Sh M) (hf : Fr WHu M M') : Sh M' := Sh_fr hs hf (fun c x e => by unfold WHu at e; unfold isP; omega)
section HU
variable {C : Nat} {W : Nat → Nat → Int} {u v sl : Nat → Int} {ro cf : Nat → Nat} {M : Mm}
theorem HM_u (h : HM C W u v sl ro cf M) (r : Nat) (x : Int) : HM C W (up u r x) v sl ro cf (mp M 67 r x) := by
  obtain ⟨h1, h2, h3, h4, h5, h6, h7⟩ := h
  refine ⟨by rw [mg_mp_n (by omega)]; exact h1, fun r' c a b d e => by rw [mg_mp_n (by omega)]; exact h2 r' c a b d e, fun r' hr => ?_, fun c hc => by rw [mg_mp_n (by omega)]; exact h4 c hc, fun c hc => by rw [mg_mp_n (by omega)]; exact h5 c hc, fun c hc => by rw [mg_mp_n (by omega)]; exact h6 c hc, fun c hc => by rw [mg_mp_n (by omega)]; exact h7 c hc⟩
  rw [mg_mp]; unfold up
  by_cases e : r' = r
  · rw [if_pos ⟨rfl, e⟩, if_pos e]
  · rw [if_neg (by omega), if_neg e]; exact h3 r' hr
theorem HM_v (h : HM C W u v sl ro cf M) (c : Nat) (x : Int) : HM C W u (up v c x) sl ro cf (mp M 68 c x) := by
  obtain ⟨h1, h2, h3, h4, h5, h6, h7⟩ := h
  refine ⟨by rw [mg_mp_n (by omega)]; exact h1, fun r' c a b d e => by rw [mg_mp_n (by omega)]; exact h2 r' c a b d e, fun r' hr => by rw [mg_mp_n (by omega)]; exact h3 r' hr, fun c' hc => ?_, fun c hc => by rw [mg_mp_n (by omega)]; exact h5 c hc, fun c hc => by rw [mg_mp_n (by omega)]; exact h6 c hc, fun c hc => by rw [mg_mp_n (by omega)]; exact h7 c hc⟩
  rw [mg_mp]; unfold up
  by_cases e : c' = c
  · rw [if_pos ⟨rfl, e⟩, if_pos e]
  · rw [if_neg (by omega), if_neg e]; exact h4 c' hc
theorem HM_s (h : HM C W u v sl ro cf M) (c : Nat) (x : Int) : HM C W u v (up sl c x) ro cf (mp M 69 c x) := by
  obtain ⟨h1, h2, h3, h4, h5, h6, h7⟩ := h
  refine ⟨by rw [mg_mp_n (by omega)]; exact h1, fun r' c a b d e => by rw [mg_mp_n (by omega)]; exact h2 r' c a b d e, fun r' hr => by rw [mg_mp_n (by omega)]; exact h3 r' hr, fun c hc => by rw [mg_mp_n (by omega)]; exact h4 c hc, fun c' hc => ?_, fun c hc => by rw [mg_mp_n (by omega)]; exact h6 c hc, fun c hc => by rw [mg_mp_n (by omega)]; exact h7 c hc⟩
  rw [mg_mp]; unfold up
  by_cases e : c' = c
  · rw [if_pos ⟨rfl, e⟩, if_pos e]
  · rw [if_neg (by omega), if_neg e]; exact h5 c' hc
theorem HM_r (h : HM C W u v sl ro cf M) (c x : Nat) : HM C W u v sl (up ro c x) cf (mp M 70 c (x : Int)) := by
  obtain ⟨h1, h2, h3, h4, h5, h6, h7⟩ := h
  refine ⟨by rw [mg_mp_n (by omega)]; exact h1, fun r' c a b d e => by rw [mg_mp_n (by omega)]; exact h2 r' c a b d e, fun r' hr => by rw [mg_mp_n (by omega)]; exact h3 r' hr, fun c hc => by rw [mg_mp_n (by omega)]; exact h4 c hc, fun c hc => by rw [mg_mp_n (by omega)]; exact h5 c hc, fun c' hc => ?_, fun c hc => by rw [mg_mp_n (by omega)]; exact h7 c hc⟩
  rw [mg_mp]; unfold up
  by_cases e : c' = c
  · rw [if_pos ⟨rfl, e⟩, if_pos e]
  · rw [if_neg (by omega), if_neg e]; exact h6 c' hc
theorem HM_c (h : HM C W u v sl ro cf M) (c x : Nat) : HM C W u v sl ro (up cf c x) (mp M 71 c (x : Int)) := by
  obtain ⟨h1, h2, h3, h4, h5, h6, h7⟩ := h
  refine ⟨by rw [mg_mp_n (by omega)]; exact h1, fun r' c a b d e => by rw [mg_mp_n (by omega)]; exact h2 r' c a b d e, fun r' hr => by rw [mg_mp_n (by omega)]; exact h3 r' hr, fun c hc => by rw [mg_mp_n (by omega)]; exact h4 c hc, fun c hc => by rw [mg_mp_n (by omega)]; exact h5 c hc, fun c hc => by rw [mg_mp_n (by omega)]; exact h6 c hc, fun c' hc => ?_⟩
  rw [mg_mp]; unfold up
  by_cases e : c' = c
  · rw [if_pos ⟨rfl, e⟩, if_pos e]
  · rw [if_neg (by omega), if_neg e]; exact h7 c' hc
theorem HM_eq {u' v' sl' : Nat → Int} {ro' cf' : Nat → Nat} (h : HM C W u v sl ro cf M) (e1 : ∀ r, r ≤ 10 → u r = u' r) (e2 : ∀ c, c ≤ 24 → v c = v' c) (e3 : ∀ c, c ≤ 24 → sl c = sl' c) (e4 : ∀ c, c ≤ 24 → ro c = ro' c) (e5 : ∀ c, c ≤ 24 → cf c = cf' c) : HM C W u' v' sl' ro' cf' M := by
  obtain ⟨h1, h2, h3, h4, h5, h6, h7⟩ := h
  exact ⟨h1, h2, fun r hr => by rw [h3 r hr, e1 r hr], fun c hc => by rw [h4 c hc, e2 c hc], fun c hc => by rw [h5 c hc, e3 c hc], fun c hc => by rw [h6 c hc, e4 c hc], fun c hc => by rw [h7 c hc, e5 c hc]⟩
theorem w64_s {x : Int} (h : -9223372036854775808 ≤ x) (h2 : x < 9223372036854775808) : w64 x = x := w64_id ⟨h, h2⟩
/-! the prices moved -/
def uN (B : Nat) (ro : Nat → Nat) (by' : Int) (u : Nat → Int) (j r : Nat) : Int := u r + (if exB (fun c => B.testBit c && decide (ro c = r)) j then by' else 0)
def vN (B : Nat) (by' : Int) (v : Nat → Int) (j c : Nat) : Int := if c < j ∧ B.testBit c = true then v c - by' else v c
def sN (B : Nat) (by' : Int) (sl : Nat → Int) (j c : Nat) : Int := if c < j ∧ B.testBit c = false then sl c - by' else sl c
theorem b_shift (hs : Sh M) (h : HM C W u v sl ro cf M) (hC : C ≤ 24) {B : Nat} (hB : B < 33554432) {by' : Int} (hby : 0 ≤ by' ∧ by' ≤ 1000000000000000000) (hu : ∀ r, r ≤ 10 → -1000000000000000000 ≤ u r ∧ u r ≤ 1000000000000000000) (hv : ∀ c, c ≤ C → -1000000000000000000 ≤ v c ∧ v c ≤ 1000000000000000000) (hsl : ∀ c, c ≤ C → B.testBit c = false → -1000000000000000000 ≤ sl c ∧ sl c ≤ 1000000000000000000) (hro : ∀ c, c ≤ C → B.testBit c = true → ro c ≤ 10) (hinj : ∀ c c', c ≤ C → c' ≤ C → B.testBit c = true → B.testBit c' = true → ro c = ro c' → c = c') : wp (f_Seater_shiftPrices M 66 (B : Int) by') (fun M' => HM C W (uN B ro by' u (C + 1)) (vN B by' v (C + 1)) (sN B by' sl (C + 1)) ro cf M' ∧ Fr WHu M M') := by
  unfold f_Seater_shiftPrices
  refine wB (wM (wp_loop (fun j s => s.1 = (j : Int) ∧ HM C W (uN B ro by' u j) (vN B by' v j) (sN B by' sl j) ro cf s.2 ∧ Fr WHu M s.2) (C + 1) (by omega) ⟨rfl, HM_eq h (fun r _ => by unfold uN exB; simp) (fun c _ => by unfold vN; rw [if_neg (by omega)]) (fun c _ => by unfold sN; rw [if_neg (by omega)]) (fun _ _ => rfl) (fun _ _ => rfl), Fr_rf⟩ ?_) (fun t ht => wS ht))
  intro j s hj hI
  obtain ⟨i, M1⟩ := s
  obtain ⟨e, hm, hf⟩ := hI
  simp only at e hm hf
  subst e
  have s1 : Sh M1 := sh_WHu hs hf
  have ej : w32 ((j : Int) + 1) = ((j + 1 : Nat) : Int) := by rw [w32_s (by omega) (by omega)]; omega
  unfold l_Seater_shiftPrices_3
  simp only []
  rw [show mg M1 (cI 66) 6 = (C : Int) from hm.1]
  refine wC (fun hc => wSr ?_) (fun hc => ?_)
  · have : j = C + 1 := by omega
    subst this; exact ⟨hm, hf⟩
  have hj' : j ≤ C := by omega
  rw [bit_n (show B < 2147483648 by omega) (show j < 32 by omega)]
  cases eb : B.testBit j with
  | false =>
    refine wI (by rfl) ?_
    rw [show mg M1 (cI 66) 3 = 70 from p_65_3 s1, show cI 70 = 69 from rfl, n_69 s1, Int.toNat_natCast, hm.2.2.2.2.1 j (by omega)]
    refine wI (by decide) (wI (by omega) (wL (wL (wSl ⟨by omega, ej, ?_, Fr_wr hf (Or.inr (by omega))⟩))))
    have b1 := hsl j hj' eb
    have e1 : sN B by' sl j j = sl j := by unfold sN; rw [if_neg (by omega)]
    rw [e1, w64_s (by omega) (by omega)]
    refine HM_eq (HM_s hm j (sl j - by')) (fun r _ => ?_) (fun c _ => ?_) (fun c _ => ?_) (fun _ _ => rfl) (fun _ _ => rfl)
    · unfold uN
      have : exB (fun c => B.testBit c && decide (ro c = r)) (j + 1) = exB (fun c => B.testBit c && decide (ro c = r)) j := by
        show (exB _ j || (B.testBit j && decide (ro j = r))) = _
        rw [eb]; simp
      rw [this]
    · unfold vN
      by_cases ec : c = j
      · subst ec; rw [if_neg (by omega), if_neg (by rw [eb]; simp)]
      · by_cases e3 : c < j ∧ B.testBit c = true
        · rw [if_pos e3, if_pos ⟨by omega, e3.2⟩]
        · rw [if_neg e3, if_neg (fun e4 => e3 ⟨by omega, e4.2⟩)]
    · unfold up sN
      by_cases ec : c = j
      · subst ec; rw [if_pos rfl, if_pos ⟨by omega, eb⟩]
      · rw [if_neg ec]
        by_cases e3 : c < j ∧ B.testBit c = false
        · rw [if_pos e3, if_pos ⟨by omega, e3.2⟩]
        · rw [if_neg e3, if_neg (fun e4 => e3 ⟨by omega, e4.2⟩)]
  | true =>
    refine wE (by decide) ?_
    have hr := hro j hj' eb
    rw [show mg M1 (cI 66) 4 = 71 from p_65_4 s1, show cI 71 = 70 from rfl, n_70 s1, Int.toNat_natCast, hm.2.2.2.2.2.1 j (by omega), show mg M1 (cI 66) 1 = 68 from p_65_1 s1, show cI 68 = 67 from rfl, n_67 s1, Int.toNat_natCast, hm.2.2.1 (ro j) hr]
    refine wI (by decide) (wI (by omega) (wI (by decide) (wI (by omega) (wL ?_))))
    have hno : exB (fun c => B.testBit c && decide (ro c = ro j)) j = false := by
      cases e3 : exB (fun c => B.testBit c && decide (ro c = ro j)) j with
      | false => rfl
      | true =>
        obtain ⟨c, h1, h2⟩ := (exB_iff _).mp e3
        rw [Bool.and_eq_true, decide_eq_true_iff] at h2
        have := hinj c j (by omega) hj' h2.1 eb h2.2
        omega
    have b1 := hu (ro j) hr
    have b2 := hv j hj'
    have e1 : uN B ro by' u j (ro j) = u (ro j) := by unfold uN; rw [hno]; simp
    have e2 : vN B by' v j j = v j := by unfold vN; rw [if_neg (by omega)]
    rw [e1, w64_s (x := u (ro j) + by') (by omega) (by omega)]
    have hm2 := HM_u hm (ro j) (u (ro j) + by')
    have f2 : Fr WHu M (mp M1 67 (ro j) (u (ro j) + by')) := Fr_wr hf (Or.inr (by omega))
    generalize hM2 : mp M1 67 (ro j) (u (ro j) + by') = M2 at *
    have s2 : Sh M2 := sh_WHu hs f2
    rw [show mg M2 (cI 66) 2 = 69 from p_65_2 s2, show cI 69 = 68 from rfl, n_68 s2, hm2.2.2.2.1 j (by omega), e2, w64_s (x := v j - by') (by omega) (by omega)]
    refine wI (by decide) (wI (by omega) (wL (wL (wSl ⟨by omega, ej, ?_, Fr_wr f2 (Or.inr (by omega))⟩))))
    refine HM_eq (HM_v hm2 j (v j - by')) (fun r _ => ?_) (fun c _ => ?_) (fun c _ => ?_) (fun _ _ => rfl) (fun _ _ => rfl)
    · unfold up uN
      have e4 : exB (fun c => B.testBit c && decide (ro c = r)) (j + 1) = (exB (fun c => B.testBit c && decide (ro c = r)) j || decide (ro j = r)) := by
        show (exB _ j || (B.testBit j && decide (ro j = r))) = _
        rw [eb]; rfl
      rw [e4]
      by_cases er : r = ro j
      · subst er
        rw [if_pos rfl, hno]; simp
      · rw [if_neg er, decide_eq_false (fun z => er z.symm)]; simp
    · unfold up vN
      by_cases ec : c = j
      · subst ec; rw [if_pos rfl, if_pos ⟨by omega, eb⟩]
      · rw [if_neg ec]
        by_cases e3 : c < j ∧ B.testBit c = true
        · rw [if_pos e3, if_pos ⟨by omega, e3.2⟩]
        · rw [if_neg e3, if_neg (fun e4 => e3 ⟨by omega, e4.2⟩)]
    · unfold sN
      by_cases ec : c = j
      · subst ec; rw [if_neg (by omega), if_neg (by rw [eb]; simp)]
      · by_cases e3 : c < j ∧ B.testBit c = false
        · rw [if_pos e3, if_pos ⟨by omega, e3.2⟩]
        · rw [if_neg e3, if_neg (fun e4 => e3 ⟨by omega, e4.2⟩)]
/-! the nearest column -/
def gap (W : Nat → Nat → Int) (u v : Nat → Int) (row c : Nat) : Int := W row c - u row - v c
def slG (B : Nat) (W : Nat → Nat → Int) (u v sl : Nat → Int) (row j c : Nat) : Int := if 1 ≤ c ∧ c < j ∧ B.testBit c = false ∧ gap W u v row c < sl c then gap W u v row c else sl c
def cfG (B : Nat) (W : Nat → Nat → Int) (u v sl : Nat → Int) (cf : Nat → Nat) (row fr j c : Nat) : Nat := if 1 ≤ c ∧ c < j ∧ B.testBit c = false ∧ gap W u v row c < sl c then fr else cf c
theorem b_near (hs : Sh M) (h : HM C W u v sl ro cf M) (hC : C ≤ 24) {B fr row : Nat} (hB : B < 33554432) (hfr : fr ≤ C) (hrow : 1 ≤ row ∧ row ≤ 10) (hW : ∀ c, 1 ≤ c → c ≤ C → 0 ≤ W row c ∧ W row c ≤ 1000000000000000000) (hu : -1000000000000000000 ≤ u row ∧ u row ≤ 1000000000000000000) (hv : ∀ c, c ≤ C → -1000000000000000000 ≤ v c ∧ v c ≤ 1000000000000000000) : wp (loopN (l_Seater_nearestColumn_18 66 (fr : Int) (B : Int) (row : Int)) FU (9223372036854775807, 0, 1, M)) (fun t => HM C W u v (slG B W u v sl row (C + 1)) ro (cfG B W u v sl cf row fr (C + 1)) t.2.2 ∧ Fr WHu M t.2.2 ∧ ((∃ c, 1 ≤ c ∧ c ≤ C ∧ B.testBit c = false) → ∃ nr : Nat, t.2.1 = (nr : Int) ∧ 1 ≤ nr ∧ nr ≤ C ∧ B.testBit nr = false ∧ t.1 = slG B W u v sl row (C + 1) nr ∧ ∀ c, 1 ≤ c → c ≤ C → B.testBit c = false → t.1 ≤ slG B W u v sl row (C + 1) c)) := by
  refine wp_loop (fun j s => s.2.2.1 = ((j + 1 : Nat) : Int) ∧ HM C W u v (slG B W u v sl row (j + 1)) ro (cfG B W u v sl cf row fr (j + 1)) s.2.2.2 ∧ Fr WHu M s.2.2.2 ∧ ((s.1 = 9223372036854775807 ∧ ∀ c, 1 ≤ c → c < j + 1 → B.testBit c = true) ∨ ∃ nr : Nat, s.2.1 = (nr : Int) ∧ 1 ≤ nr ∧ nr < j + 1 ∧ B.testBit nr = false ∧ s.1 = slG B W u v sl row (j + 1) nr ∧ ∀ c, 1 ≤ c → c < j + 1 → B.testBit c = false → s.1 ≤ slG B W u v sl row (j + 1) c)) C (by omega) ⟨rfl, HM_eq h (fun _ _ => rfl) (fun _ _ => rfl) (fun c _ => by unfold slG; rw [if_neg (by omega)]) (fun _ _ => rfl) (fun c _ => by unfold cfG; rw [if_neg (by omega)]), Fr_rf, Or.inl ⟨rfl, fun c h1 h2 => by omega⟩⟩ ?_
  intro j s hj hI
  obtain ⟨le, ne, i, M1⟩ := s
  obtain ⟨e, hm, hf, hle⟩ := hI
  simp only at e hm hf hle
  subst e
  have s1 : Sh M1 := sh_WHu hs hf
  have ej : w32 (((j + 1 : Nat) : Int) + 1) = ((j + 1 + 1 : Nat) : Int) := by rw [w32_s (by omega) (by omega)]; omega
  unfold l_Seater_nearestColumn_18
  simp only []
  rw [show mg M1 (cI 66) 6 = (C : Int) from hm.1]
  refine wC (fun hc => wSr ?_) (fun hc => ?_)
  · have : j = C := by omega
    subst this
    refine ⟨hm, hf, fun ⟨c, h1, h2, h3⟩ => ?_⟩
    rcases hle with ⟨_, h4⟩ | ⟨nr, h4, h5, h6, h7, h8, h9⟩
    · rw [h4 c h1 (by omega)] at h3; cases h3
    · exact ⟨nr, h4, h5, by omega, h7, h8, fun c h1 h2 h3 => h9 c h1 (by omega) h3⟩
  have hj' : j < C := by omega
  -- what stays for the other columns
  have slo : ∀ c, c ≠ j + 1 → slG B W u v sl row (j + 1 + 1) c = slG B W u v sl row (j + 1) c := fun c hne => by
    unfold slG
    by_cases e : 1 ≤ c ∧ c < j + 1 ∧ B.testBit c = false ∧ gap W u v row c < sl c
    · rw [if_pos e, if_pos ⟨e.1, by omega, e.2.2⟩]
    · rw [if_neg e, if_neg (fun e2 => e ⟨e2.1, by omega, e2.2.2⟩)]
  have cfo : ∀ c, c ≠ j + 1 → cfG B W u v sl cf row fr (j + 1 + 1) c = cfG B W u v sl cf row fr (j + 1) c := fun c hne => by
    unfold cfG
    by_cases e : 1 ≤ c ∧ c < j + 1 ∧ B.testBit c = false ∧ gap W u v row c < sl c
    · rw [if_pos e, if_pos ⟨e.1, by omega, e.2.2⟩]
    · rw [if_neg e, if_neg (fun e2 => e ⟨e2.1, by omega, e2.2.2⟩)]
  have slj : slG B W u v sl row (j + 1) (j + 1) = sl (j + 1) := by unfold slG; rw [if_neg (by omega)]
  rw [bit_n (show B < 2147483648 by omega) (show j + 1 < 32 by omega)]
  cases eb : B.testBit (j + 1) with
  | true =>
    refine wE (by decide) (wL (wSl ⟨hj', ej, HM_eq hm (fun _ _ => rfl) (fun _ _ => rfl) (fun c _ => ?_) (fun _ _ => rfl) (fun c _ => ?_), hf, ?_⟩))
    · by_cases ec : c = j + 1
      · subst ec; unfold slG; rw [if_neg (by omega), if_neg (by rw [eb]; simp)]
      · exact (slo c ec).symm
    · by_cases ec : c = j + 1
      · subst ec; unfold cfG; rw [if_neg (by omega), if_neg (by rw [eb]; simp)]
      · exact (cfo c ec).symm
    · rcases hle with ⟨h3, h4⟩ | ⟨nr, h4, h5, h6, h7, h8, h9⟩
      · refine Or.inl ⟨h3, fun c h1 h2 => ?_⟩
        by_cases ec : c = j + 1
        · rw [ec]; exact eb
        · exact h4 c h1 (by omega)
      · refine Or.inr ⟨nr, h4, h5, by omega, h7, by rw [slo nr (by omega)]; exact h8, fun c h1 h2 h3 => ?_⟩
        have ec : c ≠ j + 1 := fun ec => by rw [ec, eb] at h3; cases h3
        rw [slo c ec]; exact h9 c h1 (by omega) h3
  | false =>
    have bw := hW (j + 1) (by omega) (by omega)
    have bv := hv (j + 1) (by omega)
    have x1 : w32 ((row : Int) - 1) = (row : Int) - 1 := w32_s (by omega) (by omega)
    have x2 : w32 (((row : Int) - 1) * 24) = ((row : Int) - 1) * 24 := w32_s (by omega) (by omega)
    have x3 : w32 (((row : Int) - 1) * 24 + ((j + 1 : Nat) : Int)) = ((row : Int) - 1) * 24 + ((j + 1 : Nat) : Int) := w32_s (by omega) (by omega)
    have x4 : w32 (((row : Int) - 1) * 24 + ((j + 1 : Nat) : Int) - 1) = ((row : Int) - 1) * 24 + ((j + 1 : Nat) : Int) - 1 := w32_s (by omega) (by omega)
    have t1 : (((row : Int) - 1) * 24 + ((j + 1 : Nat) : Int) - 1).toNat = (row - 1) * 24 + (j + 1 - 1) := by omega
    refine wI (by rfl) ?_
    rw [x1, x2, x3, x4, t1, show mg M1 (cI 66) 0 = 67 from p_65_0 s1, show cI 67 = 66 from rfl, n_66 s1, show mg M1 (cI 66) 1 = 68 from p_65_1 s1, show cI 68 = 67 from rfl, n_67 s1, show mg M1 (cI 66) 2 = 69 from p_65_2 s1, show cI 69 = 68 from rfl, n_68 s1, Int.toNat_natCast, Int.toNat_natCast, hm.2.1 row (j + 1) hrow.1 hrow.2 (by omega) (by omega), hm.2.2.1 row hrow.2, hm.2.2.2.1 (j + 1) (by omega), w64_s (x := W row (j + 1) - u row) (by omega) (by omega), w64_s (x := W row (j + 1) - u row - v (j + 1)) (by omega) (by omega)]
    refine wI (by decide) (wI (by omega) (wI (by decide) (wI (by omega) (wI (by decide) (wI (by omega) (wL ?_))))))
    rw [show mg M1 (cI 66) 3 = 70 from p_65_3 s1, show cI 70 = 69 from rfl, n_69 s1, hm.2.2.2.2.1 (j + 1) (by omega), slj]
    refine wI (by decide) (wI (by omega) ?_)
    -- the end of a round, whatever was written
    have tail : ∀ M2 : Mm, HM C W u v (slG B W u v sl row (j + 1 + 1)) ro (cfG B W u v sl cf row fr (j + 1 + 1)) M2 → Fr WHu M M2 → slG B W u v sl row (j + 1 + 1) (j + 1) < 9223372036854775807 → wp (j_Seater_nearestColumn_102_18 M2 66 (fr : Int) (B : Int) (row : Int) le ne ((j + 1 : Nat) : Int)) (Sum.elim (fun s' => j < C ∧ s'.2.2.1 = ((j + 1 + 1 : Nat) : Int) ∧ HM C W u v (slG B W u v sl row (j + 1 + 1)) ro (cfG B W u v sl cf row fr (j + 1 + 1)) s'.2.2.2 ∧ Fr WHu M s'.2.2.2 ∧ ((s'.1 = 9223372036854775807 ∧ ∀ c, 1 ≤ c → c < j + 1 + 1 → B.testBit c = true) ∨ ∃ nr : Nat, s'.2.1 = (nr : Int) ∧ 1 ≤ nr ∧ nr < j + 1 + 1 ∧ B.testBit nr = false ∧ s'.1 = slG B W u v sl row (j + 1 + 1) nr ∧ ∀ c, 1 ≤ c → c < j + 1 + 1 → B.testBit c = false → s'.1 ≤ slG B W u v sl row (j + 1 + 1) c)) (fun t => HM C W u v (slG B W u v sl row (C + 1)) ro (cfG B W u v sl cf row fr (C + 1)) t.2.2 ∧ Fr WHu M t.2.2 ∧ ((∃ c, 1 ≤ c ∧ c ≤ C ∧ B.testBit c = false) → ∃ nr : Nat, t.2.1 = (nr : Int) ∧ 1 ≤ nr ∧ nr ≤ C ∧ B.testBit nr = false ∧ t.1 = slG B W u v sl row (C + 1) nr ∧ ∀ c, 1 ≤ c → c ≤ C → B.testBit c = false → t.1 ≤ slG B W u v sl row (C + 1) c))) := by
      intro M2 hm2 f2 hlt
      have s2 : Sh M2 := sh_WHu hs f2
      unfold j_Seater_nearestColumn_102_18
      rw [show mg M2 (cI 66) 3 = 70 from p_65_3 s2, show cI 70 = 69 from rfl, n_69 s2, Int.toNat_natCast, hm2.2.2.2.2.1 (j + 1) (by omega)]
      refine wI (by decide) (wI (by omega) (wC (fun c1 => wL (wSl ⟨hj', ej, hm2, f2, ?_⟩)) (fun c1 => wL (wL (wSl ⟨hj', ej, hm2, f2, ?_⟩)))))
      · rcases hle with ⟨h3, h4⟩ | ⟨nr, h4, h5, h6, h7, h8, h9⟩
        · omega
        · refine Or.inr ⟨nr, h4, h5, by omega, h7, by rw [slo nr (by omega)]; exact h8, fun c h1 h2 h3 => ?_⟩
          by_cases ec : c = j + 1
          · rw [ec]; exact c1
          · rw [slo c ec]; exact h9 c h1 (by omega) h3
      · refine Or.inr ⟨j + 1, rfl, by omega, by omega, eb, rfl, fun c h1 h2 h3 => ?_⟩
        by_cases ec : c = j + 1
        · rw [ec]; exact Int.le_refl _
        · rcases hle with ⟨h5, h4⟩ | ⟨nr, h4, h5, h6, h7, h8, h9⟩
          · rw [h4 c h1 (by omega)] at h3; cases h3
          · have := h9 c h1 (by omega) h3
            rw [slo c ec]; simp only; omega
    refine wC (fun c1 => tail M1 (HM_eq hm (fun _ _ => rfl) (fun _ _ => rfl) (fun c _ => ?_) (fun _ _ => rfl) (fun c _ => ?_)) hf ?_) (fun c1 => ?_)
    · by_cases ec : c = j + 1
      · subst ec
        rw [slj]; unfold slG gap; rw [if_neg (by omega)]
      · exact (slo c ec).symm
    · by_cases ec : c = j + 1
      · subst ec; unfold cfG gap; rw [if_neg (by omega), if_neg (by omega)]
      · exact (cfo c ec).symm
    · unfold slG gap; rw [if_neg (by omega)]; omega
    · refine wL ?_
      have hm2 := HM_s hm (j + 1) (W row (j + 1) - u row - v (j + 1))
      have f2 : Fr WHu M (mp M1 69 (j + 1) (W row (j + 1) - u row - v (j + 1))) := Fr_wr hf (Or.inr (by omega))
      generalize hM2 : mp M1 69 (j + 1) (W row (j + 1) - u row - v (j + 1)) = M2 at *
      have s2 : Sh M2 := sh_WHu hs f2
      rw [show mg M2 (cI 66) 5 = 72 from p_65_5 s2, show cI 72 = 71 from rfl, n_71 s2]
      refine wI (by decide) (wI (by omega) (wL (tail _ (HM_eq (HM_c hm2 (j + 1) fr) (fun _ _ => rfl) (fun _ _ => rfl) (fun c _ => ?_) (fun _ _ => rfl) (fun c _ => ?_)) (Fr_wr f2 (Or.inr (by omega))) ?_)))
      · unfold up
        by_cases ec : c = j + 1
        · subst ec; rw [if_pos rfl]; unfold slG gap; rw [if_pos ⟨by omega, by omega, eb, by omega⟩]
        · rw [if_neg ec]; exact (slo c ec).symm
      · unfold up
        by_cases ec : c = j + 1
        · subst ec; rw [if_pos rfl]; unfold cfG gap; rw [if_pos ⟨by omega, by omega, eb, by omega⟩]
        · rw [if_neg ec]; exact (cfo c ec).symm
      · unfold slG gap; rw [if_pos ⟨by omega, by omega, eb, by omega⟩]; omega
end HU
