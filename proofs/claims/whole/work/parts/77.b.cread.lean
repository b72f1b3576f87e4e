/-! the class reads a PIECE -/
def FBs (k : Nat) (D : PcD) (M : Mm) : Prop := mg M (8 + 4 * k) 7 = (pPt D : Int) ∧ mg M (8 + 4 * k) 8 = (pMu D : Int) ∧ ∀ i, i < 10 → mg M (9 + 4 * k) i = (pMy D i : Int)
def FBv (k : Nat) (D : PcD) (M : Mm) : Prop := ∀ i, i < pPt D → ∀ j, j < pMy D i → mg M (10 + 4 * k) (4 * i + j) = (pWh D i j : Int)
def WIk (k c x : Nat) : Prop := (c = 8 + 4 * k ∧ (x = 7 ∨ x = 8)) ∨ c = 9 + 4 * k ∨ c = 10 + 4 * k
def WRk (k c x : Nat) : Prop := WIk k c x ∨ WRd c x
theorem WIk_p {k c x : Nat} (hk : k < 10) (h : WIk k c x) : ¬ isP c x ∧ c ≠ 48 ∧ c ≠ 49 := by unfold WIk at h; unfold isP; omega
theorem WRk_p {k c x : Nat} (hk : k < 10) (h : WRk k c x) : ¬ isP c x := by
  rcases h with h | h
  · exact (WIk_p hk h).1
  · unfold WRd at h; unfold isP; omega
theorem FBs_fr {k : Nat} {D : PcD} {W : Nat → Nat → Prop} {M M' : Mm} (h : FBs k D M) (f : Fr W M M') (hw : ∀ c x, W c x → ¬ WIk k c x) : FBs k D M' := by
  refine ⟨(f.1 _ _ (fun w => hw _ _ w (Or.inl ⟨rfl, Or.inl rfl⟩))).trans h.1, (f.1 _ _ (fun w => hw _ _ w (Or.inl ⟨rfl, Or.inr rfl⟩))).trans h.2.1, fun i hi => (f.1 _ _ (fun w => hw _ _ w (Or.inr (Or.inl rfl)))).trans (h.2.2 i hi)⟩
theorem FBv_fr {k : Nat} {D : PcD} {W : Nat → Nat → Prop} {M M' : Mm} (h : FBv k D M) (f : Fr W M M') (hw : ∀ c x, W c x → ¬ WIk k c x) : FBv k D M' := fun i hi j hj => (f.1 _ _ (fun w => hw _ _ w (Or.inr (Or.inr rfl)))).trans (h i hi j hj)
/-- the class in the middle of a PIECE -/
def ST (n : Nat) (b : Nat → Int) (k : Nat) (q : Ts × PcD) (M : Mm) : Prop := RS n b 2 q.1 M ∧ FBs k q.2 M ∧ OKf q.2 ∧ (isI q.1 → FBv k q.2 M ∧ OKv q.2)
theorem WRd_k {k c x : Nat} (hk : k < 10) (h : WRd c x) : ¬ WIk k c x := by unfold WRd at h; unfold WIk; omega
section CR
variable {n : Nat} {b : Nat → Int} {k : Nat} {σ : Ts} {D : PcD} {q : Ts × PcD} {M : Mm}
theorem ST_rd {σ' : Ts} {M' : Mm} (hk : k < 10) (h : ST n b k (σ, D) M) (h' : RS n b 2 σ' M') (f : Fr WRd M M') (hi : isI σ' → isI σ) : ST n b k (σ', D) M' := ⟨h', FBs_fr h.2.1 f (fun c x w => WRd_k hk w), h.2.2.1, fun e => ⟨FBv_fr (h.2.2.2 (hi e)).1 f (fun c x w => WRd_k hk w), (h.2.2.2 (hi e)).2⟩⟩
theorem c_num (ho : OKt n b) {lo hi : Int} (h : RS n b 2 σ M) : wp (f_Library_readNumber M 49 lo hi) (fun q => RS n b 2 (zNum n b lo hi σ) q.2 ∧ Fr WRd M q.2 ∧ (isI (zNum n b lo hi σ) → q.1 = zV n b σ)) := by
  unfold f_Library_readNumber j_Library_readNumber_36 zNum
  refine wL ?_
  rw [show cI 49 = 48 from rfl, RS_k h]
  refine wC (fun c => ?_) (fun c => ?_)
  · have hv : mg M 48 6 = zV n b σ := by
      cases σ with
      | inr e => cases c
      | inl p => exact h.2.2.2.2.2.2.1 ((ckd_m2 ho).mp c)
    rw [q_within, Option.bind_some, hv, if_pos c]
    by_cases c2 : lo ≤ zV n b σ ∧ zV n b σ ≤ hi
    · rw [if_pos c2, if_pos c2]
      exact wI (by decide) (wK (r_adv ho (by decide) h) (fun M' hm => wS ⟨hm.1, hm.2, fun _ => rfl⟩))
    · rw [if_neg c2, if_neg c2]
      exact wE (by decide) (wK (r_fail (Or.inr (Or.inr (Or.inl rfl))) h) (fun M1 h1 => wK (r_adv ho (by decide) h1.1) (fun M' hm => wS ⟨hm.1, Fr_tr h1.2 hm.2, fun _ => rfl⟩)))
  · rw [if_neg c]
    exact wK (r_fail (Or.inl rfl) h) (fun M1 h1 => wK (r_adv ho (by decide) h1.1) (fun M' hm => wS ⟨hm.1, Fr_tr h1.2 hm.2, fun e => absurd (isI_N.mp e) isI_F⟩))
theorem c_addIns (hs : Sh M) (hk : k < 10) (hb : FBs k D M) (ho : OKf D) (h1 : 1 ≤ pPt D) {x : Int} (v : Nat) : wp (f_Piece_addInstrument M (pr k) ((pPt D - 1 : Nat) : Int) x) (fun M' => FBs k (dIns D v) M' ∧ Fr (WIk k) M M' ∧ (x = (v : Int) → FBv k D M → FBv k (dIns D v) M')) := by
  have h10 := ho.1
  have h4 := ho.2.2.1 (pPt D - 1)
  have em := hb.2.2 (pPt D - 1) (by omega)
  unfold f_Piece_addInstrument
  rw [cI_pr, p_pc0 hs hk, cI_s, n_pc0 hs hk, Int.toNat_natCast, em, p_pc1 hs hk, cI_s, n_pc1 hs hk]
  refine wI (by omega) (wI (by omega) (wC (fun c => ?_) (fun c => ?_)))
  · rw [w32_s (x := ((pPt D - 1 : Nat) : Int) * 4) (by omega) (by omega), w32_s (by omega) (by omega)]
    refine wI (by omega) (wI (by omega) (wL ?_))
    rw [show (((pPt D - 1 : Nat) : Int) * 4 + (pMy D (pPt D - 1) : Int)).toNat = 4 * (pPt D - 1) + pMy D (pPt D - 1) by omega]
    have e0 : mg (mp M (10 + 4 * k) (4 * (pPt D - 1) + pMy D (pPt D - 1)) x) (8 + 4 * k) 0 = ((9 + 4 * k : Nat) : Int) + 1 := by rw [mg_mp_n (by omega)]; exact p_pc0 hs hk
    have e1 : ml (mp M (10 + 4 * k) (4 * (pPt D - 1) + pMy D (pPt D - 1)) x) (9 + 4 * k) = 10 := n_pc0 hs hk
    rw [e0, cI_s, e1, show mg (mp M (10 + 4 * k) (4 * (pPt D - 1) + pMy D (pPt D - 1)) x) (9 + 4 * k) (pPt D - 1) = (pMy D (pPt D - 1) : Int) by rw [mg_mp_n (by omega)]; exact em, w32_s (by omega) (by omega)]
    have c' : pMy D (pPt D - 1) < 4 := by omega
    refine wI (by omega) (wI (by omega) (wL (wS ⟨?_, Fr_wr (Fr_mp (Or.inr (Or.inr rfl))) (Or.inr (Or.inl rfl)), fun hx hv => ?_⟩)))
    · rw [dI_t c']
      refine ⟨?_, ?_, fun i hi => ?_⟩
      · rw [mg_mp_n (by omega), mg_mp_n (by omega)]; exact hb.1
      · rw [mg_mp_n (by omega), mg_mp_n (by omega)]; exact hb.2.1
      · show _ = ((up (pMy D) (pPt D - 1) (pMy D (pPt D - 1) + 1) i : Nat) : Int)
        by_cases e : i = pPt D - 1
        · rw [e, mg_mp_s, up_s]; omega
        · rw [mg_mp_n (by omega), mg_mp_n (by omega), up_n e]; exact hb.2.2 i hi
    · rw [dI_t c']
      intro i hi j hj
      have hi : i < pPt D := hi
      have hj : j < up (pMy D) (pPt D - 1) (pMy D (pPt D - 1) + 1) i := hj
      show _ = ((up2 (pWh D) (pPt D - 1) (pMy D (pPt D - 1)) v i j : Nat) : Int)
      rw [mg_mp_n (by omega)]
      unfold up2
      by_cases e : i = pPt D - 1 ∧ j = pMy D (pPt D - 1)
      · rw [if_pos e, e.1, e.2, mg_mp_s]; exact hx
      · have h4i := ho.2.2.1 i
        have hj2 : j < pMy D i := by
          by_cases e2 : i = pPt D - 1
          · rw [e2, up_s] at hj; rw [e2]; omega
          · rw [up_n e2] at hj; exact hj
        rw [if_neg e, mg_mp_n (by omega)]
        exact hv i hi j hj2
  · have c' : ¬ pMy D (pPt D - 1) < 4 := by omega
    rw [dI_f c']
    exact wS ⟨hb, Fr_rf, fun _ h => h⟩
theorem c_hasIns (hs : Sh M) (hk : k < 10) (hb : FBs k D M) (hv : FBv k D M) (ho : OKf D) (h1 : 1 ≤ pPt D) (x : Int) : f_Piece_hasInstrument M (pr k) ((pPt D - 1 : Nat) : Int) x = some (if hasW D x = true then 1 else 0) := by
  have h10 := ho.1
  have h4 := ho.2.2.1 (pPt D - 1)
  have em := hb.2.2 (pPt D - 1) (by omega)
  refine w_eq ?_
  unfold f_Piece_hasInstrument
  refine wK (wp_loop (Q := fun t => (t = .inl 1 ∧ hasW D x = true) ∨ (t = .inr () ∧ hasW D x = false)) (fun j s => s = (j : Int) ∧ j ≤ pMy D (pPt D - 1) ∧ ∀ i, i < j → (pWh D (pPt D - 1) i : Int) ≠ x) (pMy D (pPt D - 1)) (by omega) ⟨rfl, Nat.zero_le _, fun i hi => by omega⟩ ?_) (fun t ht => ?_)
  · rintro j s hj ⟨rfl, hjl, hall⟩
    unfold l_Piece_hasInstrument_2
    rw [cI_pr, p_pc0 hs hk, cI_s, n_pc0 hs hk, Int.toNat_natCast, em]
    refine wI (by omega) (wI (by omega) (wC (fun c => wSr (Or.inr ⟨rfl, ?_⟩)) (fun c => ?_)))
    · unfold hasW
      rw [List.any_eq_false]
      intro i hi
      rw [List.mem_range] at hi
      rw [decide_eq_true_iff]
      exact hall i (by omega)
    · have e : f_Piece_instrument M (pr k) ((pPt D - 1 : Nat) : Int) (j : Int) = some (pWh D (pPt D - 1) j : Int) := by
        unfold f_Piece_instrument
        rw [cI_pr, p_pc1 hs hk, cI_s, n_pc1 hs hk, w32_s (x := ((pPt D - 1 : Nat) : Int) * 4) (by omega) (by omega), w32_s (by omega) (by omega), if_pos (by omega), if_pos (by omega), show (((pPt D - 1 : Nat) : Int) * 4 + (j : Int)).toNat = 4 * (pPt D - 1) + j by omega, hv (pPt D - 1) (by omega) j (by omega)]
      rw [e, Option.bind_some]
      refine wC (fun c2 => ?_) (fun c2 => wSr (Or.inl ⟨rfl, ?_⟩))
      · rw [w32_s (by omega) (by omega)]
        refine wL (wSl ⟨by omega, by omega, by omega, fun i hi => ?_⟩)
        by_cases e : i = j
        · rw [e]; exact c2
        · exact hall i (by omega)
      · unfold hasW
        rw [List.any_eq_true]
        exact ⟨j, List.mem_range.mpr (by omega), by rw [decide_eq_true_iff]; omega⟩
  · rcases ht with ⟨rfl, e⟩ | ⟨rfl, e⟩
    · rw [e]; exact wS rfl
    · rw [e]; exact wS rfl
theorem c_ins (ho : OKt n b) (hk : k < 10) (h : ST n b k q M) (h1 : 1 ≤ pPt q.2) {i : Int} (hi : i = ((pPt q.2 - 1 : Nat) : Int)) : wp (f_Library_readInstrument M 49 (pr k) i) (fun M' => ST n b k (spIns n b q) M' ∧ pPt (spIns n b q).2 = pPt q.2 ∧ Fr (WRk k) M M') := by
  obtain ⟨σ, D⟩ := q
  obtain ⟨hR, hF, hO, hV⟩ := h
  have hF : FBs k D M := hF
  have hO : OKf D := hO
  have h1 : 1 ≤ pPt D := h1
  have hi : i = ((pPt D - 1 : Nat) : Int) := hi
  have hR : RS n b 2 σ M := hR
  subst hi
  have key : ∀ σ1 m, RS n b 2 σ1 m → Fr WRd M m → (isI σ1 → σ1 = σ) → σ1 = (if zK n b 2 σ = -2 ∧ hasW D (zV n b σ) = true then zF n b 3 σ else σ) → wp (j_Library_readInstrument_26 m 49 (pr k) ((pPt D - 1 : Nat) : Int)) (fun M' => ST n b k (spIns n b (σ, D)) M' ∧ pPt (spIns n b (σ, D)).2 = pPt D ∧ Fr (WRk k) M M') := by
    intro σ1 m hm f hs1 hs2
    unfold j_Library_readInstrument_26
    refine wK (c_num ho hm) (fun p hp => ?_)
    have hF2 : FBs k D p.2 := FBs_fr (FBs_fr hF f (fun c x w => WRd_k hk w)) hp.2.1 (fun c x w => WRd_k hk w)
    refine wK (c_addIns hp.1.1.1 hk hF2 hO h1 (zV n b σ).toNat) (fun M' h3 => wS ?_)
    have eq : (spIns n b (σ, D)).1 = zNum n b 0 9 σ1 := by unfold spIns; rw [hs2]
    have hd := dI_ok (v := (zV n b σ).toNat) hO h1
    have f' : Fr (WRk k) M M' := Fr_tr (Fr_sub (Fr_tr f hp.2.1) (fun c x w => Or.inr w)) (Fr_sub h3.2.1 (fun c x w => Or.inl w))
    refine ⟨⟨?_, h3.1, hd.1, fun hI => ?_⟩, hd.2.1, f'⟩
    · rw [eq]; exact RS_fr hp.1 h3.2.1 (fun c x w => WIk_p hk w)
    · have hI' := hI
      rw [eq] at hI'
      obtain ⟨k1, k2, k3, k4, k5⟩ := zNum_i hI'
      have e := hs1 k4
      rw [e] at k1 k2 k3 k4
      have hVV := hV k4
      refine ⟨h3.2.2 ?_ (FBv_fr (FBv_fr hVV.1 f (fun c x w => WRd_k hk w)) hp.2.1 (fun c x w => WRd_k hk w)), dI_v hVV.2 (by show (zV n b σ).toNat < 10; omega)⟩
      rw [hp.2.2 hI', e]; omega
  unfold f_Library_readInstrument
  rw [show cI 49 = 48 from rfl, RS_k hR]
  refine wC (fun c => ?_) (fun c => ?_)
  · exact key σ M hR Fr_rf (fun _ => rfl) (by rw [if_neg (fun e => c e.1)])
  · have c' : zK n b 2 σ = -2 := by omega
    have hI : isI σ := isI_K c' (by decide)
    have hv : mg M 48 6 = zV n b σ := by
      cases σ with
      | inr e => cases c'
      | inl p => exact hR.2.2.2.2.2.2.1 ((ckd_m2 ho).mp c')
    rw [hv, c_hasIns hR.1.1 hk hF (hV hI).1 hO h1, Option.bind_some]
    cases hw : hasW D (zV n b σ) with
    | false => exact wI (by decide) (key σ M hR Fr_rf (fun _ => rfl) (by rw [hw, if_neg (fun e => absurd e.2 (by decide))]))
    | true => exact wE (by decide) (wK (r_fail (Or.inr (Or.inr (Or.inl rfl))) hR) (fun m hm => key _ m hm.1 hm.2 (fun e => absurd e isI_F) (by rw [hw, if_pos ⟨c', rfl⟩])))
theorem c_adv (ho : OKt n b) (hk : k < 10) (h : ST n b k q M) : wp (f_Tape_advance M 49) (fun M' => ST n b k (zN n b 2 q.1, q.2) M' ∧ Fr WRd M M') := wM (r_adv ho (by decide) h.1) (fun M' hm => ⟨ST_rd hk (σ := q.1) h hm.1 hm.2 (fun e => isI_N.mp e), hm.2⟩)
theorem c_fail (hk : k < 10) (h : ST n b k q M) {w : Int} (hw : w = 1 ∨ w = 2 ∨ w = 3 ∨ w = 4) : wp (f_Tape_fail M 49 w) (fun M' => ST n b k (zF n b w q.1, q.2) M' ∧ Fr WRd M M') := wM (r_fail hw h.1) (fun M' hm => ⟨ST_rd hk (σ := q.1) h hm.1 hm.2 (fun e => absurd e isI_F), hm.2⟩)
theorem c_or (ho : OKt n b) (hk : k < 10) (h : ST n b k q M) (h1 : 1 ≤ pPt q.2) : wp (loopN (l_Library_readPart_66 49 (pr k)) FU (1, M)) (fun M' => ST n b k (spOr n b 4 1 q) M' ∧ pPt (spOr n b 4 1 q).2 = pPt q.2 ∧ Fr (WRk k) M M') := by
  refine wp_loop (fun j s => s.1 = ((j + 1 : Nat) : Int) ∧ j ≤ 4 ∧ ∃ q', ST n b k q' s.2 ∧ pPt q'.2 = pPt q.2 ∧ spOr n b 4 1 q = spOr n b (4 - j) (j + 1) q' ∧ Fr (WRk k) M s.2) 4 (by decide) ⟨rfl, by omega, q, h, rfl, rfl, Fr_rf⟩ ?_
  rintro j ⟨i, m⟩ hj ⟨hi, hj4, q', hs, hp, hq, hf⟩
  have hi : i = ((j + 1 : Nat) : Int) := hi
  have hs : ST n b k q' m := hs
  have hf : Fr (WRk k) M m := hf
  unfold l_Library_readPart_66
  simp only []
  subst hi
  refine wC (fun c => wSr ?_) (fun c => ?_)
  · rw [hq, show 4 - j = 0 by omega]
    exact ⟨hs, hp, hf⟩
  · rw [show (3 : Int) = ((3 : Nat) : Int) from rfl, r_reads ho hs.1 (by decide), Option.bind_some]
    have e4 : 4 - j = (4 - (j + 1)) + 1 := by omega
    have un : spOr n b (4 - j) (j + 1) q' = if zW n b 2 (txs 3) q'.1 = true then spOr n b (4 - (j + 1)) (j + 1 + 1) (spIns n b (zN n b 2 (if j + 1 = 4 then zF n b 4 q'.1 else q'.1), q'.2)) else q' := by rw [e4]; rfl
    cases hw : zW n b 2 (txs 3) q'.1 with
    | false =>
      rw [hw, if_neg (by decide)] at un
      refine wI (by decide) (wSr ?_)
      rw [hq, un]; exact ⟨hs, hp, hf⟩
    | true =>
      rw [hw, if_pos rfl] at un
      refine wE (by decide) ?_
      have go : ∀ σ1 m1, ST n b k (σ1, q'.2) m1 → Fr WRd m m1 → σ1 = (if j + 1 = 4 then zF n b 4 q'.1 else q'.1) → wp (j_Library_readPart_90_66 m1 49 (pr k) ((j + 1 : Nat) : Int)) (Sum.elim (fun s' : Int × Mm => j < 4 ∧ s'.1 = ((j + 1 + 1 : Nat) : Int) ∧ j + 1 ≤ 4 ∧ ∃ q', ST n b k q' s'.2 ∧ pPt q'.2 = pPt q.2 ∧ spOr n b 4 1 q = spOr n b (4 - (j + 1)) (j + 1 + 1) q' ∧ Fr (WRk k) M s'.2) (fun M' => ST n b k (spOr n b 4 1 q) M' ∧ pPt (spOr n b 4 1 q).2 = pPt q.2 ∧ Fr (WRk k) M M')) := by
        intro σ1 m1 hm f1 hσ
        unfold j_Library_readPart_90_66
        refine wK (c_adv ho hk hm) (fun m2 h2 => ?_)
        have hO : OKf q'.2 := hs.2.2.1
        have h10 := hO.1
        refine wK (c_ins ho hk h2.1 (show 1 ≤ pPt q'.2 by omega) (i := w32 (mg m2 (cI (pr k)) 7 - 1)) ?_) (fun m3 h3 => ?_)
        · rw [cI_pr, show mg m2 (8 + 4 * k) 7 = (pPt q'.2 : Int) from h2.1.2.1.1, w32_s (by omega) (by omega)]
          show _ = ((pPt q'.2 - 1 : Nat) : Int)
          omega
        · rw [w32_s (by omega) (by omega)]
          refine wL (wSl ⟨by omega, by show ((j + 1 : Nat) : Int) + 1 = _; omega, by omega, _, h3.1, h3.2.1.trans hp, ?_, Fr_tr hf (Fr_tr (Fr_sub (Fr_tr f1 h2.2) (fun c x w => Or.inr w)) h3.2.2)⟩)
          rw [hq, un, ← hσ]
      refine wC (fun c2 => go q'.1 m hs Fr_rf ?_) (fun c2 => wK (c_fail hk hs (Or.inr (Or.inr (Or.inr rfl)))) (fun m1 h1 => go _ m1 h1.1 h1.2 ?_))
      · rw [if_neg (by omega)]
      · rw [if_pos (by omega)]
theorem c_addPart (hs : Sh M) (hk : k < 10) (hb : FBs k D M) (ho : OKf D) (h1 : pPt D < 10) (m : Bool) : wp (f_Piece_addPart M (pr k) (if m = true then 1 else 0)) (fun M' => FBs k (dAdd D m) M' ∧ Fr (fun c x => c = 8 + 4 * k ∧ (x = 7 ∨ x = 8)) M M' ∧ (FBv k D M → FBv k (dAdd D m) M')) := by
  unfold f_Piece_addPart j_Piece_addPart_29
  rw [cI_pr, hb.1]
  have vv : ∀ M', Fr (fun c x => c = 8 + 4 * k ∧ (x = 7 ∨ x = 8)) M M' → FBv k D M → FBv k (dAdd D m) M' := fun M' f hv i hi j hj => by
    have hj : j < pMy D i := hj
    have hi : i < pPt D + 1 := hi
    rcases Nat.lt_or_ge i (pPt D) with c | c
    · exact (f.1 _ _ (by omega)).trans (hv i c j hj)
    · have := ho.2.2.2 i c; omega
  refine wI (by omega) ?_
  cases m with
  | false =>
    refine wI (by decide) (wL ?_)
    rw [w32_s (by omega) (by omega)]
    have f : Fr (fun c x => c = 8 + 4 * k ∧ (x = 7 ∨ x = 8)) M (mp M (8 + 4 * k) 7 ((pPt D : Int) + 1)) := Fr_mp ⟨rfl, Or.inl rfl⟩
    refine wS ⟨⟨?_, ?_, fun i hi => ?_⟩, f, vv _ f⟩
    · rw [mg_mp_s]; show _ = ((pPt D + 1 : Nat) : Int); omega
    · rw [mg_mp_n (by omega)]; exact hb.2.1
    · rw [mg_mp_n (by omega)]; exact hb.2.2 i hi
  | true =>
    refine wE (by decide) (wL ?_)
    have hp : 2 ^ pPt D ≤ 2 ^ 10 := Nat.pow_le_pow_right (by decide) (by omega)
    have hm := ho.2.1
    have e10 : 2 ^ 10 = 1024 := rfl
    have eb : bOr (pMu D : Int) (bShl 1 (pPt D : Int)) = ((pMu D + 2 ^ pPt D : Nat) : Int) := by
      rw [bShl_1 _ (by omega), bOr_n (by omega) (by omega)]
      have := Nat.two_pow_add_eq_or_of_lt (i := pPt D) hm 1
      rw [Nat.mul_one] at this
      rw [Nat.or_comm, ← this]; omega
    rw [hb.2.1, eb, show mg (mp M (8 + 4 * k) 8 ((pMu D + 2 ^ pPt D : Nat) : Int)) (8 + 4 * k) 7 = (pPt D : Int) by rw [mg_mp_n (by omega)]; exact hb.1, w32_s (by omega) (by omega)]
    have f : Fr (fun c x => c = 8 + 4 * k ∧ (x = 7 ∨ x = 8)) M (mp (mp M (8 + 4 * k) 8 ((pMu D + 2 ^ pPt D : Nat) : Int)) (8 + 4 * k) 7 ((pPt D : Int) + 1)) := Fr_wr (Fr_mp ⟨rfl, Or.inr rfl⟩) ⟨rfl, Or.inl rfl⟩
    refine wL (wS ⟨⟨?_, ?_, fun i hi => ?_⟩, f, vv _ f⟩)
    · rw [mg_mp_s]; show _ = ((pPt D + 1 : Nat) : Int); omega
    · rw [mg_mp_n (by omega), mg_mp_s]; rfl
    · rw [mg_mp_n (by omega), mg_mp_n (by omega)]; exact hb.2.2 i hi
theorem c_part (ho : OKt n b) (hk : k < 10) (h : ST n b k q M) : wp (f_Library_readPart M 49 (pr k)) (fun M' => ST n b k (spPart n b q) M' ∧ Fr (WRk k) M M') := by
  have hO := h.2.2.1
  unfold f_Library_readPart spPart
  rw [cI_pr, h.2.1.1]
  refine wC (fun c => ?_) (fun c => ?_)
  · rw [if_pos (show pPt q.2 < 10 by omega)]
    refine wK (c_adv ho hk h) (fun m1 h1 => ?_)
    have a1 := r_reads ho h1.1.1 (w := 1) (by decide)
    have a2 := r_reads ho h1.1.1 (w := 2) (by decide)
    rw [show ((1 : Nat) : Int) = 1 from rfl] at a1
    rw [show ((2 : Nat) : Int) = 2 from rfl] at a2
    rw [a1, Option.bind_some, a2, Option.bind_some]
    have go : ∀ σ1 m2, ST n b k (σ1, q.2) m2 → Fr WRd M m2 → (isI σ1 → isI (zN n b 2 q.1)) → σ1 = spMs n b (zN n b 2 q.1) → wp (j_Library_readPart_44 m2 49 (pr k) (if zW n b 2 (txs 1) (zN n b 2 q.1) = true then 1 else 0)) (fun M' => ST n b k (spOr n b 4 1 (spIns n b (zN n b 2 (spMs n b (zN n b 2 q.1)), dAdd q.2 (zW n b 2 (txs 1) (zN n b 2 q.1))))) M' ∧ Fr (WRk k) M M') := by
      intro σ1 m2 h2 f2 hi hσ
      unfold j_Library_readPart_44
      refine wK (c_adv ho hk h2) (fun m3 h3 => ?_)
      refine wK (c_addPart h3.1.1.1.1 hk h3.1.2.1 h3.1.2.2.1 (by show pPt q.2 < 10; omega) _) (fun m4 h4 => ?_)
      have s4 : ST n b k (zN n b 2 σ1, dAdd q.2 (zW n b 2 (txs 1) (zN n b 2 q.1))) m4 := by
        refine ⟨RS_fr h3.1.1 h4.2.1 (fun c x w => by unfold isP; omega), h4.1, dA_ok h3.1.2.2.1 (by show pPt q.2 < 10; omega), fun e => ?_⟩
        have := h3.1.2.2.2 e
        exact ⟨h4.2.2 this.1, dA_v h3.1.2.2.1 this.2⟩
      refine wK (c_ins ho hk s4 (show 1 ≤ pPt q.2 + 1 by omega) (i := w32 (mg m4 (cI (pr k)) 7 - 1)) ?_) (fun m5 h5 => ?_)
      · rw [cI_pr, show mg m4 (8 + 4 * k) 7 = ((pPt q.2 + 1 : Nat) : Int) from h4.1.1, w32_s (by omega) (by omega)]
        show _ = ((pPt q.2 + 1 - 1 : Nat) : Int)
        omega
      · refine wK (c_or ho hk h5.1 (by rw [h5.2.1]; show 1 ≤ pPt q.2 + 1; omega)) (fun M' h6 => wS ⟨?_, ?_⟩)
        · rw [← hσ]; exact h6.1
        · exact Fr_tr (Fr_tr (Fr_tr (Fr_sub (Fr_tr f2 h3.2) (fun c x w => Or.inr w)) (Fr_sub h4.2.1 (fun c x w => Or.inl (Or.inl w)))) h5.2.2) h6.2.2
    cases w1 : zW n b 2 (txs 1) (zN n b 2 q.1) with
    | true =>
      have := go (zN n b 2 q.1) m1 h1.1 h1.2 (fun e => e) (by unfold spMs; rw [if_pos (Or.inl w1)])
      rw [w1] at this
      exact wI (by decide) this
    | false =>
      refine wE (by decide) ?_
      cases w2 : zW n b 2 (txs 2) (zN n b 2 q.1) with
      | true =>
        have := go (zN n b 2 q.1) m1 h1.1 h1.2 (fun e => e) (by unfold spMs; rw [if_pos (Or.inr w2)])
        rw [w1] at this
        exact wI (by decide) this
      | false =>
        refine wE (by decide) (wK (c_fail hk h1.1 (Or.inl rfl)) (fun m2 h2 => ?_))
        have := go (zF n b 1 (zN n b 2 q.1)) m2 h2.1 (Fr_tr h1.2 h2.2) (fun e => absurd e isI_F) (by unfold spMs; rw [if_neg (by rw [w1, w2]; decide)])
        rw [w1] at this
        exact this
  · rw [if_neg (show ¬ pPt q.2 < 10 by omega)]
    exact wK (c_fail hk h (Or.inr (Or.inr (Or.inr rfl)))) (fun M' hm => wS ⟨hm.1, Fr_sub hm.2 (fun c x w => Or.inr w)⟩)
theorem c_parts (ho : OKt n b) (hk : k < 10) (h : ST n b k q M) : wp (loopN (l_Library_readPiece_93 7 49 (pr k)) FU (0, M)) (fun M' => ST n b k (spParts n b 800 q) M' ∧ Fr (WRk k) M M') := by
  refine wp_loop (fun j s => s.1 = (j : Int) ∧ j ≤ 800 ∧ ∃ q', ST n b k q' s.2 ∧ spParts n b 800 q = spParts n b (800 - j) q' ∧ Fr (WRk k) M s.2) 800 (by decide) ⟨rfl, by omega, q, h, rfl, Fr_rf⟩ ?_
  rintro j ⟨i, m⟩ hj ⟨hi, hj4, q', hs, hq, hf⟩
  have hi : i = (j : Int) := hi
  have hs : ST n b k q' m := hs
  have hf : Fr (WRk k) M m := hf
  unfold l_Library_readPiece_93
  simp only []
  subst hi
  refine wC (fun c => wSr ?_) (fun c => ?_)
  · rw [hq, show 800 - j = 0 by omega]
    exact ⟨hs, hf⟩
  · rw [show cI 49 = 48 from rfl, RS_k hs.1]
    have e4 : 800 - j = (800 - (j + 1)) + 1 := by omega
    have un : spParts n b (800 - j) q' = if zK n b 2 q'.1 = 44 then spParts n b (800 - (j + 1)) (spPart n b q') else q' := by rw [e4]; rfl
    refine wC (fun c2 => wSr ?_) (fun c2 => ?_)
    · rw [if_neg c2] at un
      rw [hq, un]; exact ⟨hs, hf⟩
    · rw [if_pos (by omega)] at un
      refine wK (c_part ho hk hs) (fun m1 h1 => ?_)
      rw [w32_s (by omega) (by omega)]
      refine wL (wSl ⟨by omega, by show (j : Int) + 1 = _; omega, by omega, _, h1.1, ?_, Fr_tr hf h1.2⟩)
      rw [hq, un]
end CR
