/-! LACKS, as the class finds it -/
theorem sub_tb {X mu : Nat} (h : X ^^^ (X &&& mu) = 0) (i : Nat) (hx : X.testBit i = true) : mu.testBit i = true := by
  have h1 : (X ^^^ (X &&& mu)).testBit i = false := by rw [h]; exact Nat.zero_testBit i
  rw [Nat.testBit_xor, Nat.testBit_and, hx] at h1
  cases e : mu.testBit i with
  | true => rfl
  | false => rw [e] at h1; simp at h1
theorem tb_sub {X mu : Nat} (h : ∀ i, X.testBit i = true → mu.testBit i = true) : X ^^^ (X &&& mu) = 0 := by
  apply Nat.eq_of_testBit_eq
  intro i
  rw [Nat.testBit_xor, Nat.testBit_and, Nat.zero_testBit]
  cases e : X.testBit i with
  | true => rw [h i e]; rfl
  | false => rfl
theorem pow_add_or {i b : Nat} (h : b < 2 ^ i) : 2 ^ i ||| b = 2 ^ i + b := by
  have := Nat.two_pow_add_eq_or_of_lt h 1
  rw [Nat.mul_one] at this
  exact this.symm
theorem pcn_10 {X : Nat} (h : X < 1024) : pcn X ≤ 10 := by
  unfold pcn
  rw [cnt_ext (n := 10) 14 (by decide) (fun i hi => Nat.testBit_lt_two_pow (Nat.lt_of_lt_of_le h (by rw [show (1024 : Nat) = 2 ^ 10 from rfl]; exact Nat.pow_le_pow_right (by decide) hi)))]
  exact cnt_le _ _
def fwO (f : Nat) : Int := if f = 0 then 11 else (pcn f : Int)
def uS (n : Nat) (co : Nat → Nat → Int) (he : Nat → Bool) (d : PcD) (X p : Nat) : Bool := exB (fun i => X.testBit i && (aB n co he d i).testBit p) (pPt d)
def U64 (n : Nat) (co : Nat → Nat → Int) (he : Nat → Bool) (d : PcD) (cur : Nat) (M : Mm) : Prop := ∀ s, s < cur → ∃ u : Nat, mg M 64 s = (u : Int) ∧ u < 16384 ∧ ∀ p, u.testBit p = uS n co he d s p
def W64 (c _x : Nat) : Prop := c = 64
theorem sh_W64 {M M' : Mm} (hs : Sh M) (hf : Fr W64 M M') : Sh M' := Sh_fr hs hf (fun c k e => by unfold W64 at e; unfold isP; omega)
section LL
variable {n m k : Nat} {ag jo pa : Nat → Int} {co : Nat → Nat → Int} {he : Nat → Bool} {d : PcD} {M : Mm}
theorem uS_step {part j p : Nat} (hp : part < pPt d) (hj : j < 2 ^ part) : uS n co he d (2 ^ part + j) p = (uS n co he d j p || (aB n co he d part).testBit p) := by
  have tb : ∀ i, (2 ^ part + j).testBit i = (decide (part = i) || j.testBit i) := fun i => by rw [← pow_add_or hj, Nat.testBit_or, Nat.testBit_two_pow]
  apply Bool.eq_iff_iff.mpr
  unfold uS
  rw [Bool.or_eq_true, exB_iff, exB_iff]
  constructor
  · rintro ⟨i, h1, h2⟩
    rw [tb, Bool.and_eq_true, Bool.or_eq_true] at h2
    obtain ⟨h2 | h2, h3⟩ := h2
    · rw [decide_eq_true_iff] at h2; subst h2; exact Or.inr h3
    · exact Or.inl ⟨i, h1, by rw [h2, h3]; rfl⟩
  · rintro (⟨i, h1, h2⟩ | h)
    · rw [Bool.and_eq_true] at h2
      exact ⟨i, h1, by rw [tb, h2.1, h2.2]; simp⟩
    · exact ⟨part, hp, by rw [tb, h]; simp⟩
theorem uS_nb (hh : ∀ p, n ≤ p → he p = false) {X : Nat} (hX : X ^^^ (X &&& pMu d) = 0) (p : Nat) : uS n co he d X p = nbS co he d X p := by
  apply Bool.eq_iff_iff.mpr
  unfold uS nbS
  rw [exB_iff, exB_iff]
  constructor
  · rintro ⟨i, h1, h2⟩
    rw [Bool.and_eq_true] at h2
    refine ⟨i, h1, ?_⟩
    have h3 := h2.2
    unfold aB at h3
    rw [sub_tb hX i h2.1, if_pos rfl, msk_abl hh] at h3
    rw [h2.1, h3]; rfl
  · rintro ⟨i, h1, h2⟩
    rw [Bool.and_eq_true] at h2
    refine ⟨i, h1, ?_⟩
    rw [h2.1]
    unfold aB
    rw [sub_tb hX i h2.1, if_pos rfl, msk_abl hh, h2.2]; rfl
theorem lkX {X : Nat} (h : 1 ≤ X) : lkF co he d X = if lackB co he d X && (decide (lkF co he d (X - 1) = 0) || decide (pcn X < pcn (lkF co he d (X - 1)))) then X else lkF co he d (X - 1) := by
  cases X with
  | zero => omega
  | succ s => rfl
theorem lk_no {s : Nat} (h : lackB co he d (s + 1) = false) : lkF co he d (s + 1) = lkF co he d s := by
  show (if _ then _ else _) = _
  rw [if_neg]; rw [h]; simp
theorem b_lack33 (hs : Sh M) (hok : OKp n pa co he) (hk : k < 10) (hb : PB k d M) (ho : OKd d) {part : Nat} (hp : part < pPt d) (hab : ∀ i, i < pPt d → mg M 62 i = (aB n co he d i : Int)) (hu : U64 n co he d (2 ^ part) M) : wp (loopN (l_Cover_leastLack_33 62 (pr k) (part : Int) ((2 ^ part : Nat) : Int)) FU ((lkF co he d (2 ^ part - 1) : Int), fwO (lkF co he d (2 ^ part - 1)), 0, M)) (fun t => t.1 = (lkF co he d (2 ^ (part + 1) - 1) : Int) ∧ t.2.1 = fwO (lkF co he d (2 ^ (part + 1) - 1)) ∧ Fr W64 M t.2.2 ∧ U64 n co he d (2 ^ (part + 1)) t.2.2) := by
  obtain ⟨hn, _, hco, hh⟩ := hok
  have hpt := ho.2.2.2.2.1
  have hpw := pt_pow ho
  have hmu := mu_lt ho
  have h2p : 2 ^ (part + 1) = 2 ^ part + 2 ^ part := by rw [Nat.pow_succ]; omega
  have h2q : 2 ^ (part + 1) ≤ 2 ^ pPt d := Nat.pow_le_pow_right (by decide) hp
  have hp1 := pow_1 part
  refine wp_loop (fun j s => s.1 = (lkF co he d (2 ^ part + j - 1) : Int) ∧ s.2.1 = fwO (lkF co he d (2 ^ part + j - 1)) ∧ s.2.2.1 = (j : Int) ∧ Fr W64 M s.2.2.2 ∧ U64 n co he d (2 ^ part + j) s.2.2.2) (2 ^ part) (by omega) ⟨rfl, rfl, rfl, Fr_rf, hu⟩ ?_
  intro j s hj hI
  obtain ⟨f, g, i, m⟩ := s
  obtain ⟨e1, e2, e3, hf, hU⟩ := hI
  simp only at e1 e2 e3 hf hU
  subst e1 e2 e3
  have hsm : Sh m := sh_W64 hs hf
  have hbm : PB k d m := PB_fr hb hf (fun c x e => by unfold W64 at e; omega)
  unfold l_Cover_leastLack_33
  simp only []
  refine wC (fun hc => wSr ?_) (fun hc => ?_)
  · have : j = 2 ^ part := by omega
    subst this
    rw [show 2 ^ part + 2 ^ part - 1 = 2 ^ (part + 1) - 1 by omega, h2p]
    rw [← h2p]
    rw [← h2p] at hU
    exact ⟨rfl, rfl, hf, hU⟩
  have hj' : j < 2 ^ part := by omega
  have hX : 2 ^ part + j < 1024 := by omega
  have ex : bOr ((2 ^ part : Nat) : Int) (j : Int) = ((2 ^ part + j : Nat) : Int) := by rw [bOr_n (by omega) (by omega), pow_add_or hj']
  obtain ⟨u, hu1, hu2, hu3⟩ := hU j (by omega)
  have ha := (hf.1 62 part (by unfold W64; omega)).trans (hab part hp)
  have hal := aB_lt (co := co) (he := he) (d := d) hn part
  have eo : bOr (u : Int) (aB n co he d part : Int) = ((u ||| aB n co he d part : Nat) : Int) := bOr_n (by omega) (by omega)
  have hol : u ||| aB n co he d part < 16384 := Nat.or_lt_two_pow (n := 14) (by omega) (by omega)
  have hot : ∀ p, (u ||| aB n co he d part).testBit p = uS n co he d (2 ^ part + j) p := fun p => by rw [Nat.testBit_or, hu3, uS_step hp hj']
  have ej : w32 ((j : Int) + 1) = ((j + 1 : Nat) : Int) := by rw [w32_s (by omega) (by omega)]; omega
  rw [ex]
  refine wL ?_
  rw [show mg m (cI 62) 2 = 65 from p_61_2 hsm, show mg m (cI 62) 0 = 63 from p_61_0 hsm, show cI 65 = 64 from rfl, show cI 63 = 62 from rfl, n_64 hsm, n_62 hsm]
  refine wI (by decide) (wI (by omega) (wI (by decide) (wI (by omega) (wI (by omega) (wL ?_)))))
  rw [Int.toNat_natCast, Int.toNat_natCast, Int.toNat_natCast, hu1, ha, eo]
  generalize hM' : mp m 64 (2 ^ part + j) ((u ||| aB n co he d part : Nat) : Int) = M'
  have hf' : Fr W64 M M' := by rw [← hM']; exact Fr_wr hf rfl
  have hs' : Sh M' := sh_W64 hs hf'
  have hb' : PB k d M' := PB_fr hb hf' (fun c x e => by unfold W64 at e; omega)
  have hr : mg M' 64 (2 ^ part + j) = ((u ||| aB n co he d part : Nat) : Int) := by rw [← hM']; exact mg_mp_s _ _ _ _
  have hU' : U64 n co he d (2 ^ part + (j + 1)) M' := by
    intro s hs2
    by_cases e : s = 2 ^ part + j
    · subst e; exact ⟨_, hr, hol, hot⟩
    · obtain ⟨v, v1, v2, v3⟩ := hU s (by omega)
      exact ⟨v, by rw [← hM', mg_mp_n (by omega)]; exact v1, v2, v3⟩
  have keep : lkF co he d (2 ^ part + j) = lkF co he d (2 ^ part + j - 1) → wp (some (Sum.inl ((lkF co he d (2 ^ part + j - 1) : Int), fwO (lkF co he d (2 ^ part + j - 1)), w32 ((j : Int) + 1), M')) : Option ((Int × Int × Int × Mm) ⊕ (Int × Int × Mm))) (Sum.elim (fun s' => j < 2 ^ part ∧ s'.1 = (lkF co he d (2 ^ part + (j + 1) - 1) : Int) ∧ s'.2.1 = fwO (lkF co he d (2 ^ part + (j + 1) - 1)) ∧ s'.2.2.1 = ((j + 1 : Nat) : Int) ∧ Fr W64 M s'.2.2.2 ∧ U64 n co he d (2 ^ part + (j + 1)) s'.2.2.2) (fun t => t.1 = (lkF co he d (2 ^ (part + 1) - 1) : Int) ∧ t.2.1 = fwO (lkF co he d (2 ^ (part + 1) - 1)) ∧ Fr W64 M t.2.2 ∧ U64 n co he d (2 ^ (part + 1)) t.2.2)) := by
    intro e
    refine wSl ⟨hj', ?_, ?_, ej, hf', hU'⟩
    · rw [show 2 ^ part + (j + 1) - 1 = 2 ^ part + j by omega, e]
    · rw [show 2 ^ part + (j + 1) - 1 = 2 ^ part + j by omega, e]
  have hpc := pcn_10 hX
  refine wX (b_bitCount M' (show 2 ^ part + j < 16384 by omega)) ?_
  rw [show mg M' (cI (pr k)) 8 = (pMu d : Int) by rw [cI_pr]; exact hb'.2.2.2.2.2.1, bNot_n (show 2 ^ part + j < 2147483648 by omega) (show pMu d < 2147483648 by omega)]
  refine wC (fun hc1 => wL (keep ?_)) (fun hc1 => ?_)
  · rw [lkX (show 1 ≤ 2 ^ part + j by omega), if_neg]
    unfold lackB
    rw [decide_eq_false (show ¬ (2 ^ part + j) ^^^ ((2 ^ part + j) &&& pMu d) = 0 by omega)]; simp
  have hc1' : (2 ^ part + j) ^^^ ((2 ^ part + j) &&& pMu d) = 0 := by omega
  refine wC (fun hc2 => wL (keep ?_)) (fun hc2 => ?_)
  · unfold fwO at hc2
    rw [lkX (show 1 ≤ 2 ^ part + j by omega), if_neg]
    split at hc2
    · omega
    · rename_i hne
      have e1 : decide (lkF co he d (2 ^ part + j - 1) = 0) = false := decide_eq_false hne
      have e2 : decide (pcn (2 ^ part + j) < pcn (lkF co he d (2 ^ part + j - 1))) = false := decide_eq_false (by omega)
      rw [e1, e2]; simp
  rw [show mg M' (cI 62) 2 = 65 from p_61_2 hs', show cI 65 = 64 from rfl, n_64 hs']
  refine wI (by decide) (wI (by omega) ?_)
  rw [hr]
  have hnb : pcn (u ||| aB n co he d part) = nbr co he d (2 ^ part + j) := cnt_cg 14 (fun p _ => by rw [hot p, uS_nb hh hc1'])
  refine wX (b_bitCount M' hol) ?_
  rw [hnb]
  refine wC (fun hc3 => wL (keep ?_)) (fun hc3 => ?_)
  · rw [lkX (show 1 ≤ 2 ^ part + j by omega), if_neg]
    unfold lackB
    rw [decide_eq_false (show ¬ nbr co he d (2 ^ part + j) < pcn (2 ^ part + j) by omega)]; simp
  · have hL : lackB co he d (2 ^ part + j) = true := by
      unfold lackB
      rw [decide_eq_true hc1', decide_eq_true (show nbr co he d (2 ^ part + j) < pcn (2 ^ part + j) by omega)]; rfl
    have hnew : lkF co he d (2 ^ part + j) = 2 ^ part + j := by
      rw [lkX (show 1 ≤ 2 ^ part + j by omega), if_pos]
      rw [hL]
      unfold fwO at hc2
      split at hc2
      · rename_i he0; rw [he0]; rfl
      · rw [decide_eq_true (show pcn (2 ^ part + j) < pcn (lkF co he d (2 ^ part + j - 1)) by omega)]; simp
    refine wL (wSl ⟨hj', ?_, ?_, ej, hf', hU'⟩)
    · rw [show 2 ^ part + (j + 1) - 1 = 2 ^ part + j by omega, hnew]
    · rw [show 2 ^ part + (j + 1) - 1 = 2 ^ part + j by omega, hnew]
      unfold fwO; rw [if_neg (by omega)]
def WLk (c _x : Nat) : Prop := c = 62 ∨ c = 64
theorem sh_WLk {M M' : Mm} (hs : Sh M) (hf : Fr WLk M M') : Sh M' := Sh_fr hs hf (fun c k e => by unfold WLk at e; unfold isP; omega)
theorem b_leastLack (hs : Sh M) (hp : CBp n ag jo pa co he M) (hok : OKp n pa co he) (hk : k < 10) (hb : PB k d M) (ho : OKd d) (h0 : mg M 64 0 = 0) : wp (f_Cover_leastLack M 62 (pr k) 2) (fun q => q.1 = (lk co he d : Int) ∧ Fr WLk M q.2 ∧ mg q.2 64 0 = 0) := by
  have hn := hok.1
  have hpt := ho.2.2.2.2.1
  unfold f_Cover_leastLack
  refine wK (b_findAble hs hp hn hk hb ho) (fun M1 ⟨f1, hab⟩ => ?_)
  have s1 : Sh M1 := sh_WAb hs f1
  have b1 : PB k d M1 := PB_fr hb f1 (fun c x e => by unfold WAb at e; omega)
  have z1 : mg M1 64 0 = 0 := (f1.1 64 0 (by unfold WAb; omega)).trans h0
  refine wK (wp_loop (fun j s => s.1 = (lkF co he d (2 ^ j - 1) : Int) ∧ s.2.1 = fwO (lkF co he d (2 ^ j - 1)) ∧ s.2.2.1 = (j : Int) ∧ Fr W64 M1 s.2.2.2 ∧ U64 n co he d (2 ^ j) s.2.2.2) (pPt d) (Q := fun t => t.1 = (lk co he d : Int) ∧ Fr W64 M1 t.2 ∧ mg t.2 64 0 = 0) (by omega) ⟨rfl, rfl, rfl, Fr_rf, ?_⟩ ?_) (fun t ht => wS ⟨ht.1, Fr_tr (Fr_sub f1 (fun c x e => Or.inl e)) (Fr_sub ht.2.1 (fun c x e => Or.inr e)), ht.2.2⟩)
  · intro s hs2
    have : s = 0 := by omega
    subst this
    refine ⟨0, z1, by omega, fun p => ?_⟩
    rw [Nat.zero_testBit]
    cases e : uS n co he d 0 p with
    | false => rfl
    | true =>
      obtain ⟨i, _, h2⟩ := (exB_iff _).mp e
      rw [Nat.zero_testBit] at h2; simp at h2
  intro j s hj hI
  obtain ⟨f, g, i, m⟩ := s
  obtain ⟨e1, e2, e3, hf, hU⟩ := hI
  simp only at e1 e2 e3 hf hU
  subst e1 e2 e3
  have hsm : Sh m := sh_W64 s1 hf
  have hbm : PB k d m := PB_fr b1 hf (fun c x e => by unfold W64 at e; omega)
  unfold l_Cover_leastLack_15
  simp only []
  rw [show mg m (cI (pr k)) 7 = (pPt d : Int) by rw [cI_pr]; exact hbm.2.2.2.2.1]
  refine wC (fun hc => wSr ?_) (fun hc => ?_)
  · have : j = pPt d := by omega
    subst this
    obtain ⟨u, u1, u2, u3⟩ := hU 0 (pow_1 _)
    refine ⟨rfl, hf, ?_⟩
    have : u = 0 := Nat.eq_of_testBit_eq (fun p => by
      rw [u3, Nat.zero_testBit]
      cases e : uS n co he d 0 p with
      | false => rfl
      | true =>
        obtain ⟨i, _, h2⟩ := (exB_iff _).mp e
        rw [Nat.zero_testBit] at h2; simp at h2)
    rw [this] at u1; exact u1
  have hj' : j < pPt d := by omega
  rw [bShl_1 j (by omega)]
  refine wL (wK (b_lack33 hsm hok hk hbm ho hj' (fun i hi => (hf.1 62 i (by unfold W64; omega)).trans (hab i hi)) hU) (fun t ht => ?_))
  obtain ⟨t1, t2, t3, t4⟩ := ht
  exact wL (wSl ⟨hj', t1, t2, by rw [w32_s (by omega) (by omega)]; rfl, Fr_tr hf t3, t4⟩)
end LL
