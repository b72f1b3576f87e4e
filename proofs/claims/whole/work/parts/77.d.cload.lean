/-! the class's load -/
def WTx (m c x : Nat) : Prop := (8 + 4 * m ≤ c ∧ c ≤ 47 ∧ ¬ isP c x) ∨ WRd c x ∨ (c = 6 ∧ x = 2)
theorem WPc_t {m k c x : Nat} (h1 : m ≤ k) (h2 : k < 10) (h : WPc k c x) : WTx m c x := by
  unfold WPc at h
  unfold WTx
  rcases h with h | h | h | h
  · left; unfold isP; omega
  · left; unfold isP; omega
  · right; left; exact h
  · right; right; exact h
theorem WTx_p {m c x : Nat} (h : WTx m c x) : ¬ isP c x := by
  rcases h with h | h | h
  · exact h.2.2
  · unfold WRd at h; unfold isP; omega
  · unfold isP; omega
/-- the class in the middle of a text: m PIECES before, q read so far -/
def TX (n : Nat) (b : Nat → Int) (m : Nat) (q : Ts × Nat × (Nat → PcD)) (M : Mm) : Prop := RS n b 2 q.1 M ∧ mg M 6 1 = (m : Int) ∧ mg M 6 2 = ((q.2.1 - m : Nat) : Int) ∧ m ≤ q.2.1 ∧ q.2.1 ≤ 10 ∧ (isI q.1 → ∀ k, k < q.2.1 → PB k (q.2.2 k) M ∧ OKd (q.2.2 k) ∧ (m ≤ k → ∀ i, i < 10 → mg M (11 + 4 * k) i = -1))
theorem spPiece_inr {n : Nat} {b : Nat → Int} {m : Nat} {lb : Nat → PcD} {σ : Ts} (h : ¬ isI σ) : (spPiece n b m lb σ).1 = σ := by
  have e1 : zP1 n b m lb σ = σ := by unfold zP1; rw [zN_inr h, zNam_inr h, zTake_inr (by decide) h]
  have e2 : zP2 n b m lb σ = σ := by unfold zP2; rw [e1, zNum_inr h]
  have e3 : zP3 n b m lb σ = σ := by unfold zP3; rw [e2, zNum_inr h]
  have e4 : zP4 n b m lb σ = σ := by unfold zP4; rw [e3, zNum_inr h]
  unfold spPiece
  rw [e4, spParts_inr h, zTake_inr (by decide) h]
theorem sp_keep {n : Nat} {b : Nat → Int} {k : Nat} : ∀ f (q : Ts × Nat × (Nat → PcD)), k < q.2.1 → (spText n b f q).2.2 k = q.2.2 k
  | 0, _, _ => rfl
  | f + 1, q, h => by
    show (if zW n b 2 (txs 0) q.1 = true then (if q.2.1 < 10 then spText n b f ((spPiece n b q.2.1 q.2.2 q.1).1, q.2.1 + 1, up q.2.2 q.2.1 (spPiece n b q.2.1 q.2.2 q.1).2) else spText n b f (zF n b 4 q.1, q.2.1, q.2.2)) else q).2.2 k = _
    split
    · split
      · rw [sp_keep f _ (by show k < q.2.1 + 1; omega)]
        exact up_n (by omega)
      · exact sp_keep f _ h
    · rfl
section CT
variable {n : Nat} {b : Nat → Int} {m : Nat} {lb : Nat → PcD} {ch : Nat → Nat → Int} {q : Ts × Nat × (Nat → PcD)} {M : Mm}
theorem c_text (ho : OKt n b) (h : TX n b m q M) : wp (loopN (l_Library_readText_12 7 49) FU (0, M)) (fun M' => TX n b m (spText n b 800 q) M' ∧ Fr (WTx m) M M') := by
  refine wp_loop (fun j s => s.1 = (j : Int) ∧ j ≤ 800 ∧ ∃ q', TX n b m q' s.2 ∧ spText n b 800 q = spText n b (800 - j) q' ∧ Fr (WTx m) M s.2) 800 (by decide) ⟨rfl, by omega, q, h, rfl, Fr_rf⟩ ?_
  rintro j ⟨i, a⟩ hj ⟨hi, hj4, q', hs, hq, hf⟩
  have hi : i = (j : Int) := hi
  have hs : TX n b m q' a := hs
  have hf : Fr (WTx m) M a := hf
  obtain ⟨t1, t2, t3, t4, t5, t6⟩ := hs
  unfold l_Library_readText_12
  simp only []
  subst hi
  refine wC (fun c => wSr ?_) (fun c => ?_)
  · rw [hq, show 800 - j = 0 by omega]
    exact ⟨⟨t1, t2, t3, t4, t5, t6⟩, hf⟩
  · have a0 := r_reads ho t1 (w := 0) (by decide)
    rw [show ((0 : Nat) : Int) = 0 from rfl] at a0
    rw [a0, Option.bind_some]
    have e4 : 800 - j = (800 - (j + 1)) + 1 := by omega
    have un : spText n b (800 - j) q' = if zW n b 2 (txs 0) q'.1 = true then (if q'.2.1 < 10 then spText n b (800 - (j + 1)) ((spPiece n b q'.2.1 q'.2.2 q'.1).1, q'.2.1 + 1, up q'.2.2 q'.2.1 (spPiece n b q'.2.1 q'.2.2 q'.1).2) else spText n b (800 - (j + 1)) (zF n b 4 q'.1, q'.2.1, q'.2.2)) else q' := by rw [e4]; rfl
    cases hw : zW n b 2 (txs 0) q'.1 with
    | false =>
      rw [hw, if_neg (by decide)] at un
      refine wI (by decide) (wSr ?_)
      rw [hq, un]; exact ⟨⟨t1, t2, t3, t4, t5, t6⟩, hf⟩
    | true =>
      rw [hw, if_pos rfl] at un
      refine wE (by decide) ?_
      have hI : isI q'.1 := isI_W hw
      rw [w32_s (by omega) (by omega)]
      by_cases c10 : q'.2.1 < 10
      · rw [if_pos c10] at un
        refine wK (c_piece ho t1 t2 t3 (m := q'.2.1) (lb := q'.2.2) (by omega) c10 (fun e o hoo => ⟨((t6 e o hoo).1).1, ((t6 e o hoo).2.1).1⟩)) (fun a1 g1 => ?_)
        obtain ⟨g1, g2, g3, g4⟩ := g1
        refine wL (wSl ⟨by omega, by show (j : Int) + 1 = _; omega, by omega, _, ?_, hq.trans un, Fr_tr hf (Fr_sub g3 (fun c x w => WPc_t t4 c10 w))⟩)
        refine ⟨g1, ?_, ?_, by show m ≤ q'.2.1 + 1; omega, by show q'.2.1 + 1 ≤ 10; omega, fun e k hk => ?_⟩
        · rw [g3.1 6 1 (by unfold WPc WRd; omega)]; exact t2
        · rw [g2]; show _ = ((q'.2.1 + 1 - m : Nat) : Int); omega
        · have hk : k < q'.2.1 + 1 := hk
          have g4 := g4 e
          show PB k (up q'.2.2 q'.2.1 (spPiece n b q'.2.1 q'.2.2 q'.1).2 k) a1 ∧ OKd (up q'.2.2 q'.2.1 (spPiece n b q'.2.1 q'.2.2 q'.1).2 k) ∧ _
          by_cases ek : k = q'.2.1
          · rw [ek, up_s]; exact ⟨g4.1, g4.2.1, fun _ => g4.2.2⟩
          · rw [up_n ek]
            have old := t6 hI k (by omega)
            refine ⟨PB_fr old.1 g3 (fun c x w => by unfold WPc WRd at w; omega), old.2.1, fun hmk i hi => ?_⟩
            rw [g3.1 _ i (by unfold WPc WRd; omega)]; exact old.2.2 hmk i hi
      · rw [if_neg c10] at un
        unfold f_Library_readPiece
        rw [show cI 7 = 6 from rfl, t2, t3, w32_s (by omega) (by omega), if_neg (by omega)]
        refine wB (wK (r_fail (Or.inr (Or.inr (Or.inr rfl))) t1) (fun a1 g1 => wS ?_))
        refine wL (wSl ⟨by omega, by show (j : Int) + 1 = _; omega, by omega, _, ?_, hq.trans un, Fr_tr hf (Fr_sub g1.2 (fun c x w => Or.inr (Or.inl w)))⟩)
        refine ⟨g1.1, ?_, ?_, t4, t5, fun e => absurd e isI_F⟩
        · rw [g1.2.1 6 1 (by unfold WRd; omega)]; exact t2
        · rw [g1.2.1 6 2 (by unfold WRd; omega)]; exact t3
def spLoad (n : Nat) (b : Nat → Int) (m : Nat) (lb : Nat → PcD) : Ts × Nat × (Nat → PcD) := spText n b 800 (.inl (0, tks n b 2 0 0), m, lb)
def ldT (n : Nat) (b : Nat → Int) (m : Nat) (lb : Nat → PcD) : Ts := zEnd n b 2 (spLoad n b m lb).1
def chN1 (m : Nat) (ch : Nat → Nat → Int) : Nat → Nat → Int := fun k i => if k < m then ch k i else -1
def WLd (m c x : Nat) : Prop := WTx m c x ∨ (c = 48 ∧ (x = 1 ∨ x = 2)) ∨ (c = 6 ∧ x = 1)
theorem zEnd_i {n : Nat} {b : Nat → Int} {dg : Nat} {σ : Ts} (h : isI (zEnd n b dg σ)) : zEnd n b dg σ = σ ∧ isI σ ∧ zK n b dg σ = -1 := by
  unfold zEnd at h ⊢
  by_cases c : zK n b dg σ = -1
  · rw [if_pos c] at h ⊢; exact ⟨rfl, h, c⟩
  · rw [if_neg c] at h; exact absurd h isI_F
theorem b_load (ho : OKt n b) (hs : Sh M) (ht : CBt n b M) {np : Nat} (hl : CBl m lb ch M) (hok : OKl np m lb ch) : wp (f_Band_load M 1) (fun r => Fr (WLd m) M r.2 ∧ mg r.2 48 1 = 0 ∧ match ldT n b m lb with
    | .inl _ => r.1 = ((spLoad n b m lb).2.1 : Int) ∧ CBl (spLoad n b m lb).2.1 (spLoad n b m lb).2.2 (chN1 m ch) r.2 ∧ OKl np (spLoad n b m lb).2.1 (spLoad n b m lb).2.2 (chN1 m ch) ∧ mg r.2 48 8 = 0 ∧ mg r.2 48 9 = -1
    | .inr e => r.1 = -1 ∧ mg r.2 6 1 = (m : Int) ∧ mg r.2 48 8 = e.1 ∧ mg r.2 48 9 = e.2) := by
  unfold f_Band_load
  rw [show cI 1 = 0 from rfl, p_0_1 hs, p_0_2 hs]
  refine wI (by decide) (wI (by decide) ?_)
  unfold f_Library_readText j_Library_readText_39
  rw [show cI 7 = 6 from rfl]
  have f0 : Fr (WLd m) M (mp M 6 2 0) := Fr_mp (Or.inl (Or.inr (Or.inr ⟨rfl, rfl⟩)))
  refine wB (wL (wK (r_begin ho (dg := 2) (by decide) rfl (Sh_mp hs (by unfold isP; omega)) (CBt_fr ht (Fr_mp (W := fun c x => c = 6 ∧ x = 2) ⟨rfl, rfl⟩) (fun c x w => by omega))) (fun a1 g1 => ?_)))
  have f1 : Fr (WLd m) M a1 := Fr_tr f0 (Fr_sub g1.2 (fun c x w => by
    unfold WLd WTx WRd; omega))
  have e61 : mg a1 6 1 = (m : Int) := by rw [g1.2.1 6 1 (by omega), mg_mp_n (by omega)]; exact hl.1
  have e62 : mg a1 6 2 = 0 := by rw [g1.2.1 6 2 (by omega), mg_mp_s]
  have fa : Fr (fun c x => (c = 48 ∧ 2 ≤ x) ∨ (c = 6 ∧ x = 2)) M a1 := Fr_tr (Fr_mp (Or.inr ⟨rfl, rfl⟩)) (Fr_sub g1.2 (fun c x w => by omega))
  have tx : TX n b m (.inl (0, tks n b 2 0 0), m, lb) a1 := by
    refine ⟨g1.1, e61, ?_, Nat.le_refl _, hok.1, fun _ k hk => ⟨PB_fr (hl.2 k hk).1 fa (fun c x w => ?_), (hok.2 k hk).1, fun e => ?_⟩⟩
    · rw [e62]; show (0 : Int) = ((m - m : Nat) : Int); omega
    · have := hok.1; have hk : k < m := hk; omega
    · have hk : k < m := hk; omega
  refine wK (c_text ho tx) (fun a2 g2 => ?_)
  obtain ⟨⟨t1, t2, t3, t4, t5, t6⟩, g3⟩ := g2
  have f2 : Fr (WLd m) M a2 := Fr_tr f1 (Fr_sub g3 (fun c x w => Or.inl w))
  refine wK (r_finish t1) (fun p9 g4 => ?_)
  obtain ⟨k1, k2, k3, k4⟩ := g4
  have f3 : Fr (WLd m) M p9.2 := Fr_tr f2 (Fr_sub k4 (fun c x w => by unfold WLd WTx WRd; omega))
  have s3 : Sh p9.2 := Sh_fr hs f3 (fun c x w => by
    unfold WLd at w
    rcases w with w | w | w
    · exact WTx_p w
    · unfold isP; omega
    · unfold isP; omega)
  have z1 : mg p9.2 6 1 = (m : Int) := by rw [k4.1 6 1 (by omega)]; exact t2
  have z2 : mg p9.2 6 2 = (((spLoad n b m lb).2.1 - m : Nat) : Int) := by rw [k4.1 6 2 (by omega)]; exact t3
  have t4 : m ≤ (spLoad n b m lb).2.1 := t4
  have t5 : (spLoad n b m lb).2.1 ≤ 10 := t5
  have k1 : p9.1 = match ldT n b m lb with | .inl _ => 1 | .inr _ => 0 := k1
  have k3 : match ldT n b m lb with | .inl y => mg p9.2 48 7 = (y.2 : Int) ∧ mg p9.2 48 8 = 0 ∧ mg p9.2 48 9 = -1 | .inr e => mg p9.2 48 8 = e.1 ∧ mg p9.2 48 9 = e.2 := k3
  cases hτ : ldT n b m lb with
  | inr e =>
    rw [hτ] at k1 k3
    have k1 : p9.1 = 0 := k1
    have k3 : mg p9.2 48 8 = e.1 ∧ mg p9.2 48 9 = e.2 := k3
    exact wE (by rw [k1]; decide) (wS (wI rfl (wS ⟨f3, k2, rfl, z1, k3.1, k3.2⟩)))
  | inl y =>
    rw [hτ] at k1 k3
    have k1 : p9.1 = 1 := k1
    have k3 : mg p9.2 48 7 = (y.2 : Int) ∧ mg p9.2 48 8 = 0 ∧ mg p9.2 48 9 = -1 := k3
    have hII : isI (spLoad n b m lb).1 := (zEnd_i (show isI (ldT n b m lb) by rw [hτ]; trivial)).2.1
    have t6 := t6 hII
    refine wI (by rw [k1]; decide) ?_
    rw [z1, z2, w32_s (by omega) (by omega)]
    refine wL (wS (wE (by show ¬ (1 : Int) = 0; decide) ?_))
    have e01 : mg (mp p9.2 6 1 ((m : Int) + (((spLoad n b m lb).2.1 - m : Nat) : Int))) 0 1 = 7 := by rw [mg_mp_n (by omega)]; exact p_0_1 s3
    simp only []
    rw [e01, show cI 7 = 6 from rfl, mg_mp_s]
    refine wI (by decide) (wS ⟨Fr_wr f3 (Or.inr (Or.inr ⟨rfl, rfl⟩)), ?_, by show (m : Int) + _ = _; omega, ⟨?_, fun k hk => ⟨?_, fun i hi => ?_⟩⟩, ⟨t5, fun k hk => ⟨(t6 k hk).2.1, fun i hi => ?_⟩⟩, ?_, ?_⟩)
    · rw [mg_mp_n (by omega)]; exact k2
    · rw [mg_mp_s]; omega
    · refine PB_fr (PB_fr (t6 k hk).1 k4 (fun c x w => by omega)) (Fr_mp (W := fun c x => c = 6 ∧ x = 1) ⟨rfl, rfl⟩) (fun c x w => by omega)
    · have hk : k < (spLoad n b m lb).2.1 := hk
      have hi10 := ((t6 k hk).2.1).2.2.2.2.1
      have hi : i < pPt ((spLoad n b m lb).2.2 k) := hi
      have hi10 : pPt ((spLoad n b m lb).2.2 k) ≤ 10 := hi10
      rw [mg_mp_n (by omega), k4.1 _ _ (by omega)]
      unfold chN1
      by_cases ck : k < m
      · rw [if_pos ck]
        have e1 : mg a2 (11 + 4 * k) i = mg M (11 + 4 * k) i := by
          rw [g3.1 _ _ (by unfold WTx WRd; omega), fa.1 _ _ (by omega)]
        rw [e1]
        have ek : (spLoad n b m lb).2.2 k = lb k := sp_keep 800 (.inl (0, tks n b 2 0 0), m, lb) ck
        rw [ek] at hi
        exact (hl.2 k ck).2 i hi
      · rw [if_neg ck]; exact (t6 k hk).2.2 (by omega) i (by omega)
    · have hk : k < (spLoad n b m lb).2.1 := hk
      unfold chN1
      by_cases ck : k < m
      · rw [if_pos ck]
        have ek : (spLoad n b m lb).2.2 k = lb k := sp_keep 800 (.inl (0, tks n b 2 0 0), m, lb) ck
        have hi : i < pPt ((spLoad n b m lb).2.2 k) := hi
        rw [ek] at hi
        exact (hok.2 k ck).2 i hi
      · rw [if_neg ck]; omega
    · rw [mg_mp_n (by omega)]; exact k3.2.1
    · rw [mg_mp_n (by omega)]; exact k3.2.2
end CT
