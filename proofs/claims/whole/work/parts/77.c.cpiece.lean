/-! the class reads the LIBRARY's text -/
def hd4 (D : PcD) : List Int × Int × Int × Int := (pNm D, pMi D, pLi D, pKe D)
theorem hd_ins {D : PcD} {v : Nat} : hd4 (dIns D v) = hd4 D := by
  by_cases c : pMy D (pPt D - 1) < 4
  · rw [dI_t c]; rfl
  · rw [dI_f c]
section HD
variable {n : Nat} {b : Nat → Int}
theorem hd_or : ∀ f c (q : Ts × PcD), hd4 (spOr n b f c q).2 = hd4 q.2
  | 0, _, _ => rfl
  | f + 1, c, q => by
    show hd4 (if zW n b 2 (txs 3) q.1 = true then spOr n b f (c + 1) (spIns n b (zN n b 2 (if c = 4 then zF n b 4 q.1 else q.1), q.2)) else q).2 = _
    split
    · rw [hd_or f (c + 1)]; exact hd_ins
    · rfl
theorem hd_part (q : Ts × PcD) : hd4 (spPart n b q).2 = hd4 q.2 := by
  unfold spPart
  split
  · rw [hd_or]; exact hd_ins
  · rfl
theorem hd_parts : ∀ f (q : Ts × PcD), hd4 (spParts n b f q).2 = hd4 q.2
  | 0, _ => rfl
  | f + 1, q => by
    show hd4 (if zK n b 2 q.1 = 44 then spParts n b f (spPart n b q) else q).2 = _
    split
    · rw [hd_parts f]; exact hd_part q
    · rfl
end HD
section CP
variable {n : Nat} {b : Nat → Int} {k m : Nat} {σ : Ts} {lb : Nat → PcD} {M : Mm}
def NB (m : Nat) (lb : Nat → PcD) (M : Mm) : Prop := ∀ o, o < m → mg M (8 + 4 * o) 3 = c5 (pNm (lb o)) ∧ OKn (pNm (lb o))
theorem c_isWord (ho : OKt n b) (h : RS n b 2 σ M) : f_Library_isWord M 49 = some (if zWd n b σ = true then 1 else 0) := by
  have a0 := r_reads ho h (w := 0) (by decide)
  have a1 := r_reads ho h (w := 1) (by decide)
  have a2 := r_reads ho h (w := 2) (by decide)
  have a3 := r_reads ho h (w := 3) (by decide)
  rw [show ((0 : Nat) : Int) = 0 from rfl] at a0
  rw [show ((1 : Nat) : Int) = 1 from rfl] at a1
  rw [show ((2 : Nat) : Int) = 2 from rfl] at a2
  rw [show ((3 : Nat) : Int) = 3 from rfl] at a3
  unfold f_Library_isWord zWd
  rw [a0, a1, a2, a3]
  simp only [Option.bind_some]
  cases zW n b 2 (txs 0) σ <;> cases zW n b 2 (txs 1) σ <;> cases zW n b 2 (txs 2) σ <;> cases zW n b 2 (txs 3) σ <;> rfl
theorem c_hasName (hs : Sh M) {m0 t : Nat} (h1 : mg M 6 1 = (m0 : Int)) (h2 : mg M 6 2 = (t : Int)) (hm : m0 + t = m) (hm10 : m ≤ 10) (hN : NB m lb M) {l : List Int} (hl : OKn l) : f_Library_hasName M 7 (c5 l) = some (if hasN m lb l = true then 1 else 0) := by
  refine w_eq ?_
  unfold f_Library_hasName
  refine wK (wp_loop (Q := fun t => (t = .inl 1 ∧ hasN m lb l = true) ∨ (t = .inr () ∧ hasN m lb l = false)) (fun j s => s = (j : Int) ∧ j ≤ m ∧ ∀ i, i < j → pNm (lb i) ≠ l) m (by omega) ⟨rfl, Nat.zero_le _, fun i hi => by omega⟩ ?_) (fun t ht => ?_)
  · rintro j s hj ⟨rfl, hjl, hall⟩
    have stop : m ≤ j → hasN m lb l = false := fun c => by
      unfold hasN
      rw [List.any_eq_false]
      intro i hi
      rw [List.mem_range] at hi
      rw [decide_eq_true_iff]
      exact hall i (by omega)
    unfold l_Library_hasName_2
    rw [show cI 7 = 6 from rfl, h1, h2, w32_s (by omega) (by omega), p_6_0 hs, show cI 8 = 7 from rfl, n_7 hs, Int.toNat_natCast]
    refine wC (fun c => wSr (Or.inr ⟨rfl, stop (by omega)⟩)) (fun c => wC (fun c2 => wSr (Or.inr ⟨rfl, stop (by omega)⟩)) (fun c2 => ?_))
    rw [p_7 hs (show j < 10 by omega), cI_s, (hN j (by omega)).1]
    refine wI (by decide) (wI (by omega) (wI (by omega) (wC (fun c3 => ?_) (fun c3 => wSr (Or.inl ⟨rfl, ?_⟩)))))
    · rw [w32_s (by omega) (by omega)]
      refine wL (wSl ⟨by omega, by omega, by omega, fun i hi => ?_⟩)
      by_cases e : i = j
      · rw [e]; exact fun e2 => c3 (by rw [e2])
      · exact hall i (by omega)
    · unfold hasN
      rw [List.any_eq_true]
      refine ⟨j, List.mem_range.mpr (by omega), ?_⟩
      rw [decide_eq_true_iff]
      exact c5_inj (hN j (by omega)).2.2 hl.2 (by
        by_cases e : c5 (pNm (lb j)) = c5 l
        · exact e
        · exact absurd e c3)
  · rcases ht with ⟨rfl, e⟩ | ⟨rfl, e⟩
    · rw [e]; exact wS rfl
    · rw [e]; exact wS rfl
theorem c_name (ho : OKt n b) {m0 t : Nat} (h : RS n b 2 σ M) (h1 : mg M 6 1 = (m0 : Int)) (h2 : mg M 6 2 = (t : Int)) (hm : m0 + t = m) (hm10 : m ≤ 10) (hN : isI σ → NB m lb M) : wp (f_Library_readName M 7 49) (fun q => RS n b 2 (zNam n b m lb σ) q.2 ∧ Fr WRd M q.2 ∧ (isI (zNam n b m lb σ) → q.1 = c5 (zL n b σ) ∧ OKn (zL n b σ))) := by
  have bad : wp (j_Library_readName_21 M 49 (mg M 48 6)) (fun q => RS n b 2 (zN n b 2 (zF n b 1 σ)) q.2 ∧ Fr WRd M q.2 ∧ (isI (zN n b 2 (zF n b 1 σ)) → q.1 = c5 (zL n b σ) ∧ OKn (zL n b σ))) := by
    unfold j_Library_readName_21 j_Library_readName_42
    exact wK (r_fail (Or.inl rfl) h) (fun M1 g1 => wK (r_adv ho (by decide) g1.1) (fun M' hm => wS ⟨hm.1, Fr_tr g1.2 hm.2, fun e => absurd (isI_N.mp e) isI_F⟩))
  unfold f_Library_readName zNam
  refine wL ?_
  rw [show cI 49 = 48 from rfl, RS_k h]
  refine wC (fun c => ?_) (fun c => ?_)
  · rw [if_neg (fun e => c e.1)]; exact bad
  · have c' : zK n b 2 σ = -3 := by omega
    have hI : isI σ := isI_K c' (by decide)
    have hv : mg M 48 6 = c5 (zL n b σ) ∧ OKn (zL n b σ) := by
      cases σ with
      | inr e => cases c'
      | inl p =>
        have hT := (ckd_m3 ho).mp c'
        exact ⟨h.2.2.2.2.2.1 hT, (t_2 ho.1 hT).2.2.2.2⟩
    rw [c_isWord ho h, Option.bind_some]
    cases hw : zWd n b σ with
    | true =>
      rw [if_neg (show ¬ (zK n b 2 σ = -3 ∧ true = false) from fun e => absurd e.2 (by decide))]
      exact wE (by decide) bad
    | false =>
      rw [if_pos (show zK n b 2 σ = -3 ∧ false = false from ⟨c', rfl⟩)]
      refine wI (by decide) ?_
      unfold j_Library_readName_42
      rw [hv.1, c_hasName h.1.1 h1 h2 hm hm10 (hN hI) hv.2, Option.bind_some]
      cases hh : hasN m lb (zL n b σ) with
      | false =>
        exact wI (by decide) (wK (r_adv ho (by decide) h) (fun M' hm => wS ⟨hm.1, hm.2, fun _ => ⟨rfl, hv.2⟩⟩))
      | true =>
        exact wE (by decide) (wK (r_fail (Or.inr (Or.inl rfl)) h) (fun M1 g1 => wK (r_adv ho (by decide) g1.1) (fun M' hm => wS ⟨hm.1, Fr_tr g1.2 hm.2, fun e => absurd (isI_N.mp e) isI_F⟩)))
theorem c_clear (hs : Sh M) (hk : k < 10) : wp (f_Piece_clear M (pr k)) (fun M' => mg M' (8 + 4 * k) 7 = 0 ∧ mg M' (8 + 4 * k) 8 = 0 ∧ (∀ i, i < 10 → mg M' (9 + 4 * k) i = 0) ∧ (∀ i, i < 10 → mg M' (11 + 4 * k) i = -1) ∧ Fr (fun c x => (c = 8 + 4 * k ∧ (x = 7 ∨ x = 8)) ∨ c = 9 + 4 * k ∨ c = 11 + 4 * k) M M') := by
  unfold f_Piece_clear
  rw [cI_pr]
  refine wL (wL ?_)
  have f0 : Fr (fun c x => (c = 8 + 4 * k ∧ (x = 7 ∨ x = 8)) ∨ c = 9 + 4 * k ∨ c = 11 + 4 * k) M (mp (mp M (8 + 4 * k) 7 0) (8 + 4 * k) 8 0) := Fr_wr (Fr_mp (Or.inl ⟨rfl, Or.inl rfl⟩)) (Or.inl ⟨rfl, Or.inr rfl⟩)
  have s0 : Sh (mp (mp M (8 + 4 * k) 7 0) (8 + 4 * k) 8 0) := Sh_fr hs f0 (fun c x w => by unfold isP; omega)
  have k7 : mg (mp (mp M (8 + 4 * k) 7 0) (8 + 4 * k) 8 0) (8 + 4 * k) 7 = 0 := by rw [mg_mp_n (by omega), mg_mp_s]
  have k8 : mg (mp (mp M (8 + 4 * k) 7 0) (8 + 4 * k) 8 0) (8 + 4 * k) 8 = 0 := by rw [mg_mp_s]
  generalize mp (mp M (8 + 4 * k) 7 0) (8 + 4 * k) 8 0 = m at *
  rw [p_pc0 s0 hk]
  refine wI (by omega) (wK (w_fillI m _ 0 (by rw [cI_s, n_pc0 s0 hk]; decide)) (fun m1 h1 => ?_))
  rw [cI_s, n_pc0 s0 hk] at h1
  have s1 : Sh m1 := Sh_fr s0 h1.1 (fun c x w => by unfold isP; omega)
  rw [p_pc2 s1 hk]
  refine wI (by omega) (wK (w_fillI m1 _ (-1) (by rw [cI_s, n_pc2 s1 hk]; decide)) (fun m2 h2 => wS ?_))
  rw [cI_s, n_pc2 s1 hk] at h2
  refine ⟨?_, ?_, fun i hi => ?_, fun i hi => h2.2 i hi, Fr_tr (Fr_tr f0 (Fr_sub h1.1 (fun c x w => Or.inr (Or.inl w)))) (Fr_sub h2.1 (fun c x w => Or.inr (Or.inr w)))⟩
  · rw [h2.1.1 _ _ (by omega), h1.1.1 _ _ (by omega), k7]
  · rw [h2.1.1 _ _ (by omega), h1.1.1 _ _ (by omega), k8]
  · rw [h2.1.1 _ _ (by omega)]; exact h1.2 i hi
def WPc (k c x : Nat) : Prop := (c = 8 + 4 * k ∧ 3 ≤ x) ∨ (9 + 4 * k ≤ c ∧ c ≤ 11 + 4 * k) ∨ WRd c x ∨ (c = 6 ∧ x = 2)
theorem spPiece_i (h : isI (spPiece n b m lb σ).1) : isI σ ∧ isI (zNam n b m lb (zN n b 2 σ)) ∧ isI (zP1 n b m lb σ) ∧ isI (zP2 n b m lb σ) ∧ isI (zP3 n b m lb σ) ∧ isI (zP4 n b m lb σ) ∧ isI (spParts n b 800 (zP4 n b m lb σ, dP n b m lb σ)).1 := by
  have h7 : isI (spParts n b 800 (zP4 n b m lb σ, dP n b m lb σ)).1 := (zTake_i (by decide) h).2.1
  have h6 : isI (zP4 n b m lb σ) := by
    by_cases c : isI (zP4 n b m lb σ)
    · exact c
    · rw [spParts_inr c] at h7; exact h7
  have h5 : isI (zP3 n b m lb σ) := (zNum_i h6).2.2.2.1
  have h4 : isI (zP2 n b m lb σ) := (zNum_i h5).2.2.2.1
  have h3 : isI (zP1 n b m lb σ) := (zNum_i h4).2.2.2.1
  have h2 : isI (zNam n b m lb (zN n b 2 σ)) := (zTake_i (by decide) h3).2.1
  exact ⟨isI_N.mp (zNam_i h2).2.2.2.1, h2, h3, h4, h5, h6, h7⟩
theorem c_piece (ho : OKt n b) {m0 t : Nat} (h : RS n b 2 σ M) (h1 : mg M 6 1 = (m0 : Int)) (h2 : mg M 6 2 = (t : Int)) (hm : m0 + t = m) (hm10 : m < 10) (hN : isI σ → NB m lb M) : wp (f_Library_readPiece M 7 49) (fun M' => RS n b 2 (spPiece n b m lb σ).1 M' ∧ mg M' 6 2 = ((t + 1 : Nat) : Int) ∧ Fr (WPc m) M M' ∧ (isI (spPiece n b m lb σ).1 → PB m (spPiece n b m lb σ).2 M' ∧ OKd (spPiece n b m lb σ).2 ∧ ∀ i, i < 10 → mg M' (11 + 4 * m) i = -1)) := by
  have hs := h.1.1
  unfold f_Library_readPiece j_Library_readPiece_120
  rw [show cI 7 = 6 from rfl, h1, h2, w32_s (by omega) (by omega), p_6_0 hs, show cI 8 = 7 from rfl, n_7 hs, show ((m0 : Int) + (t : Int)).toNat = m by omega, p_7 hs hm10]
  refine wI (by omega) (wI (by decide) (wI (by omega) (wL (wI (by omega) ?_))))
  rw [show ((8 + 4 * m : Nat) : Int) + 1 = pr m from rfl, cI_pr]
  refine wK (c_clear hs hm10) (fun a1 g1 => ?_)
  obtain ⟨q7, q8, q9, q11, F1⟩ := g1
  have R1 : RS n b 2 σ a1 := RS_fr h F1 (fun c x w => by unfold isP; omega)
  refine wK (r_adv ho (by decide) R1) (fun a2 g2 => ?_)
  have F2 : Fr (fun c x => (c = 8 + 4 * m ∧ (x = 7 ∨ x = 8)) ∨ c = 9 + 4 * m ∨ c = 11 + 4 * m ∨ WRd c x) M a2 := Fr_tr (Fr_sub F1 (fun c x w => by omega)) (Fr_sub g2.2 (fun c x w => Or.inr (Or.inr (Or.inr w))))
  refine wK (c_name ho g2.1 (lb := lb) (m0 := m0) (t := t) ?_ ?_ hm (by omega) (fun e o hoo => ?_)) (fun p8 g3 => ?_)
  · rw [F2.1 6 1 (by unfold WRd; omega)]; exact h1
  · rw [F2.1 6 2 (by unfold WRd; omega)]; exact h2
  · rw [F2.1 _ 3 (by unfold WRd; omega)]; exact hN (isI_N.mp e) o hoo
  have F3 : Fr WRd a1 p8.2 := Fr_tr g2.2 g3.2.1
  refine wL ?_
  have R9 : RS n b 2 (zNam n b m lb (zN n b 2 σ)) (mp p8.2 (8 + 4 * m) 3 p8.1) := RS_fr g3.1 (Fr_mp (W := fun c x => c = 8 + 4 * m ∧ x = 3) ⟨rfl, rfl⟩) (fun c x w => by unfold isP; omega)
  refine wK (r_take ho (by decide) R9) (fun a4 g4 => ?_)
  refine wK (c_num ho g4.1) (fun p11 g5 => ?_)
  refine wL ?_
  have R12 : RS n b 2 (zP2 n b m lb σ) (mp p11.2 (8 + 4 * m) 4 p11.1) := RS_fr g5.1 (Fr_mp (W := fun c x => c = 8 + 4 * m ∧ x = 4) ⟨rfl, rfl⟩) (fun c x w => by unfold isP; omega)
  refine wK (c_num ho R12) (fun p13 g6 => ?_)
  refine wL ?_
  have R14 : RS n b 2 (zP3 n b m lb σ) (mp p13.2 (8 + 4 * m) 5 p13.1) := RS_fr g6.1 (Fr_mp (W := fun c x => c = 8 + 4 * m ∧ x = 5) ⟨rfl, rfl⟩) (fun c x w => by unfold isP; omega)
  refine wK (c_num ho R14) (fun p15 g7 => ?_)
  refine wL ?_
  have R16 : RS n b 2 (zP4 n b m lb σ) (mp p15.2 (8 + 4 * m) 6 p15.1) := RS_fr g7.1 (Fr_mp (W := fun c x => c = 8 + 4 * m ∧ x = 6) ⟨rfl, rfl⟩) (fun c x w => by unfold isP; omega)
  -- from the clearing to the parts
  have F16 : Fr (fun c x => (c = 8 + 4 * m ∧ 3 ≤ x ∧ x ≤ 6) ∨ WRd c x) a1 (mp p15.2 (8 + 4 * m) 6 p15.1) := by
    have k1 : Fr (fun c x => (c = 8 + 4 * m ∧ 3 ≤ x ∧ x ≤ 6) ∨ WRd c x) a1 (mp p8.2 (8 + 4 * m) 3 p8.1) := Fr_wr (Fr_sub F3 (fun c x w => Or.inr w)) (Or.inl ⟨rfl, by omega⟩)
    have k2 : Fr (fun c x => (c = 8 + 4 * m ∧ 3 ≤ x ∧ x ≤ 6) ∨ WRd c x) a1 (mp p11.2 (8 + 4 * m) 4 p11.1) := Fr_wr (Fr_tr k1 (Fr_sub (Fr_tr g4.2 g5.2.1) (fun c x w => Or.inr w))) (Or.inl ⟨rfl, by omega⟩)
    have k3 : Fr (fun c x => (c = 8 + 4 * m ∧ 3 ≤ x ∧ x ≤ 6) ∨ WRd c x) a1 (mp p13.2 (8 + 4 * m) 5 p13.1) := Fr_wr (Fr_tr k2 (Fr_sub g6.2.1 (fun c x w => Or.inr w))) (Or.inl ⟨rfl, by omega⟩)
    exact Fr_wr (Fr_tr k3 (Fr_sub g7.2.1 (fun c x w => Or.inr w))) (Or.inl ⟨rfl, by omega⟩)
  have S16 : ST n b m (zP4 n b m lb σ, dP n b m lb σ) (mp p15.2 (8 + 4 * m) 6 p15.1) := by
    refine ⟨R16, ⟨?_, ?_, fun i hi => ?_⟩, ⟨Nat.zero_le _, (by show 0 < 2 ^ 0; decide), fun i => Nat.zero_le _, fun i hi => rfl⟩, fun _ => ⟨fun i hi => absurd hi (Nat.not_lt_zero i), fun i hi => absurd hi (Nat.not_lt_zero i)⟩⟩
    · rw [F16.1 _ 7 (by unfold WRd; omega)]; exact q7
    · rw [F16.1 _ 8 (by unfold WRd; omega)]; exact q8
    · rw [F16.1 _ i (by unfold WRd; omega)]; exact q9 i hi
  refine wK (c_parts ho hm10 S16) (fun t21 g8 => ?_)
  refine wK (r_take ho (by decide) g8.1.1) (fun p22 g9 => ?_)
  -- from the parts to the end
  have F22 : Fr (WRk m) (mp p15.2 (8 + 4 * m) 6 p15.1) p22 := Fr_tr g8.2 (Fr_sub g9.2 (fun c x w => Or.inr w))
  have e62 : mg p22 6 2 = (t : Int) := by
    rw [F22.1 6 2 (by unfold WRk WIk WRd; omega), F16.1 6 2 (by unfold WRd; omega), F1.1 6 2 (by omega)]; exact h2
  rw [e62, w32_s (by omega) (by omega)]
  refine wL (wS ⟨?_, ?_, ?_, fun hI => ?_⟩)
  · exact RS_fr g9.1 (Fr_mp (W := fun c x => c = 6 ∧ x = 2) ⟨rfl, rfl⟩) (fun c x w => by unfold isP; omega)
  · rw [mg_mp_s]; omega
  · refine Fr_wr (Fr_tr (Fr_sub F1 (fun c x w => ?_)) (Fr_tr (Fr_sub F16 (fun c x w => ?_)) (Fr_sub F22 (fun c x w => ?_)))) ?_
    · unfold WPc; omega
    · unfold WPc; rcases w with w | w
      · left; omega
      · right; right; left; exact w
    · unfold WPc; rcases w with w | w
      · unfold WIk at w; omega
      · right; right; left; exact w
    · unfold WPc; right; right; right; exact ⟨rfl, rfl⟩
  · obtain ⟨i0, i1, i2, i3, i4, i5, i6⟩ := spPiece_i hI
    have hh : hd4 (spPiece n b m lb σ).2 = hd4 (dP n b m lb σ) := hd_parts 800 _
    have e1 : pNm (spPiece n b m lb σ).2 = zL n b (zN n b 2 σ) := congrArg (fun z => z.1) hh
    have e2 : pMi (spPiece n b m lb σ).2 = zV n b (zP1 n b m lb σ) := congrArg (fun z => z.2.1) hh
    have e3 : pLi (spPiece n b m lb σ).2 = zV n b (zP2 n b m lb σ) := congrArg (fun z => z.2.2.1) hh
    have e4 : pKe (spPiece n b m lb σ).2 = zV n b (zP3 n b m lb σ) := congrArg (fun z => z.2.2.2) hh
    have v1 := zNum_i (show isI (zNum n b 1 60 (zP1 n b m lb σ)) from i3)
    have v2 := zNum_i (show isI (zNum n b 0 9 (zP2 n b m lb σ)) from i4)
    have v3 := zNum_i (show isI (zNum n b 0 11 (zP3 n b m lb σ)) from i5)
    have vn := g3.2.2 i1
    obtain ⟨_, sF, sO, sV⟩ := g8.1
    have sV := sV i6
    have sF : FBs m (spPiece n b m lb σ).2 t21 := sF
    have sO : OKf (spPiece n b m lb σ).2 := sO
    have F21 : Fr WRd t21 p22 := g9.2
    have Fz : Fr (fun c x => c = 6 ∧ x = 2) p22 (mp p22 6 2 ((t : Int) + 1)) := Fr_mp ⟨rfl, rfl⟩
    have ob : ∀ c x, c ≠ 6 → c ≠ 48 → mg (mp p22 6 2 ((t : Int) + 1)) c x = mg t21 c x := fun c x a1 a2 => by
      rw [Fz.1 c x (by omega), F21.1 c x (by unfold WRd; omega)]
    have oa : ∀ x, 3 ≤ x → x ≤ 6 → mg (mp p22 6 2 ((t : Int) + 1)) (8 + 4 * m) x = mg (mp p15.2 (8 + 4 * m) 6 p15.1) (8 + 4 * m) x := fun x a1 a2 => by
      rw [Fz.1 _ x (by omega), F22.1 _ x (by unfold WRk WIk WRd; omega)]
    refine ⟨⟨?_, ?_, ?_, ?_, ?_, ?_, fun i hi => ⟨?_, fun j hj => ?_⟩⟩, ⟨?_, ?_, ?_, ?_, sO.1, sO.2.1, fun i hi => ⟨sO.2.2.1 i, fun j hj => sV.2 i hi j hj⟩⟩, fun i hi => ?_⟩
    · rw [oa 3 (by omega) (by omega), mg_mp_n (by omega), g7.2.1.1 _ 3 (by unfold WRd; omega), mg_mp_n (by omega), g6.2.1.1 _ 3 (by unfold WRd; omega), mg_mp_n (by omega), g5.2.1.1 _ 3 (by unfold WRd; omega), g4.2.1 _ 3 (by unfold WRd; omega), mg_mp_s, vn.1, e1]
    · rw [oa 4 (by omega) (by omega), mg_mp_n (by omega), g7.2.1.1 _ 4 (by unfold WRd; omega), mg_mp_n (by omega), g6.2.1.1 _ 4 (by unfold WRd; omega), mg_mp_s, g5.2.2 i3, e2]; rfl
    · rw [oa 5 (by omega) (by omega), mg_mp_n (by omega), g7.2.1.1 _ 5 (by unfold WRd; omega), mg_mp_s, g6.2.2 i4, e3]
    · rw [oa 6 (by omega) (by omega), mg_mp_s, g7.2.2 i5, e4]
    · rw [ob _ _ (by omega) (by omega)]; exact sF.1
    · rw [ob _ _ (by omega) (by omega)]; exact sF.2.1
    · have hi10 := sO.1
      rw [ob _ _ (by omega) (by omega)]; exact sF.2.2 i (by omega)
    · rw [ob _ _ (by omega) (by omega)]; exact sV.1 i hi j hj
    · rw [e1]; exact vn.2
    · rw [e2]; exact ⟨v1.2.1, v1.2.2.1⟩
    · rw [e3]; exact ⟨v2.2.1, v2.2.2.1⟩
    · rw [e4]; exact ⟨v3.2.1, v3.2.2.1⟩
    · rw [ob _ _ (by omega) (by omega), g8.2.1 _ i (by unfold WRk WIk WRd; omega), F16.1 _ i (by unfold WRd; omega)]; exact q11 i hi
end CP
