/-! a row finds its column: what holds -/
/-- rows 1 .. t have a column each, row t + 1 stands at column 0 -/
def RO (C t : Nat) (ro : Nat → Nat) : Prop := ro 0 = t + 1 ∧ (∀ c, 1 ≤ c → c ≤ C → ro c ≤ t) ∧ (∀ c c', c ≤ C → c' ≤ C → ro c = ro c' → ro c ≠ 0 → c = c') ∧ (∀ r, 1 ≤ r → r ≤ t → ∃ c, 1 ≤ c ∧ c ≤ C ∧ ro c = r)
def PR (C R t : Nat) (W : Nat → Nat → Int) (u v : Nat → Int) (ro : Nat → Nat) : Prop := (∀ r c, 1 ≤ r → r ≤ R → 1 ≤ c → c ≤ C → u r + v c ≤ W r c) ∧ (∀ c, 1 ≤ c → c ≤ C → ro c ≠ 0 → u (ro c) + v c = W (ro c) c) ∧ (∀ c, 1 ≤ c → c ≤ C → ro c = 0 → v c = 0) ∧ (∀ c, c ≤ C → v c ≤ 0 ∧ -(5766503906250000 * (t : Int) + u (t + 1)) ≤ v c) ∧ (∀ r, r ≤ 10 → 0 ≤ u r ∧ u r ≤ 5766503906250000 * (t : Int) + u (t + 1))
def TR (C : Nat) (W : Nat → Nat → Int) (u v sl : Nat → Int) (ro cf : Nat → Nat) (B col j : Nat) : Prop := B < 2 ^ (C + 1) ∧ (∀ c, B.testBit c = true → ro c ≠ 0) ∧ cnt B.testBit (C + 1) = j ∧ col ≤ C ∧ B.testBit col = false ∧ (j = 0 → col = 0 ∧ B = 0 ∧ ∀ c, c ≤ C → sl c = 9223372036854775807) ∧ (1 ≤ j → B.testBit 0 = true ∧ ∀ c, 1 ≤ c → c ≤ C → B.testBit c = false → cf c ≤ C ∧ B.testBit (cf c) = true ∧ sl c = gap W u v (ro (cf c)) c ∧ ∀ b, b ≤ C → B.testBit b = true → sl c ≤ gap W u v (ro b) c) ∧ ∃ rk : Nat → Nat, rk 0 = 0 ∧ ∀ c, c ≤ C → (B.testBit c = true ∨ c = col) → c ≠ 0 → cf c ≤ C ∧ B.testBit (cf c) = true ∧ gap W u v (ro (cf c)) c = 0 ∧ rk (cf c) < rk c ∧ rk c ≤ j
section PLC
variable {C R t : Nat} {W : Nat → Nat → Int} {u v sl : Nat → Int} {ro cf : Nat → Nat} {B col j : Nat}
theorem ro_free (hR : t + 1 ≤ C) (h : RO C t ro) : ∃ c, 1 ≤ c ∧ c ≤ C ∧ ro c = 0 := by
  rcases Classical.em (∃ c, 1 ≤ c ∧ c ≤ C ∧ ro c = 0) with h1 | h1
  · exact h1
  · exfalso
    have hall : ∀ c, 1 ≤ c → c ≤ C → ro c ≠ 0 := fun c a b e => h1 ⟨c, a, b, e⟩
    have k1 := pigeon (b := t + 1) (C + 1) (fun c => decide (1 ≤ c)) (fun r => decide (1 ≤ r)) ro (fun c hc hs => by
      have h2 : 1 ≤ c := by simpa using hs
      have h3 := h.2.1 c h2 (by omega)
      have h4 := hall c h2 (by omega)
      exact ⟨by omega, by simp; omega⟩) (fun c c' hc hc' hs hs' e => by
      have h2 : 1 ≤ c := by simpa using hs
      exact h.2.2.1 c c' (by omega) (by omega) e (hall c h2 (by omega)))
    have cn : ∀ n, cnt (fun c => decide (1 ≤ c)) (n + 1) = n := by
      intro n
      induction n with
      | zero => rfl
      | succ n ih =>
        show cnt (fun c => decide (1 ≤ c)) (n + 1) + (if decide (1 ≤ n + 1) then 1 else 0) = n + 1
        rw [ih]; simp
    rw [cn, cn] at k1
    omega
theorem tr_lt (h : TR C W u v sl ro cf B col j) (hro : RO C t ro) (hc : ro col ≠ 0) : cnt (B ||| 2 ^ col).testBit (C + 1) = j + 1 ∧ j + 1 ≤ t + 1 := by
  obtain ⟨h1, h2, h3, h4, h5, _⟩ := h
  have e1 : cnt (B ||| 2 ^ col).testBit (C + 1) = j + 1 := by
    rw [← h3, ← cnt_ad (show col < C + 1 by omega) h5]
    exact cnt_cg _ (fun p _ => by rw [tb_or, show decide (col = p) = decide (p = col) from decide_eq_decide.mpr ⟨Eq.symm, Eq.symm⟩])
  refine ⟨e1, ?_⟩
  have nz : ∀ c, (B ||| 2 ^ col).testBit c = true → ro c ≠ 0 := fun c hb => by
    rw [tb_or, Bool.or_eq_true, decide_eq_true_iff] at hb
    rcases hb with hb | rfl
    · exact h2 c hb
    · exact hc
  have k1 := pigeon (b := t + 1) (C + 1) (B ||| 2 ^ col).testBit (fun _ => true) (fun c => ro c - 1) (fun c hc' hb => by
    have h6 := nz c hb
    refine ⟨?_, rfl⟩
    by_cases e : c = 0
    · subst e; have := hro.1; omega
    · have := hro.2.1 c (by omega) (by omega); omega) (fun c c' hc1 hc2 hb hb' e => by
    have h6 := nz c hb
    have h7 := nz c' hb'
    exact hro.2.2.1 c c' (by omega) (by omega) (by have e : ro c - 1 = ro c' - 1 := e; omega) h6)
  have k2 := cnt_le (fun _ => true) (t + 1)
  omega
theorem uN_in {B C : Nat} {by' : Int} {u : Nat → Int} {b : Nat} (hb : b ≤ C) (ht : B.testBit b = true) : uN B ro by' u (C + 1) (ro b) = u (ro b) + by' := by
  unfold uN
  rw [if_pos ((exB_iff _).mpr ⟨b, by omega, by rw [ht]; simp⟩)]
theorem uN_out {B C : Nat} {by' : Int} {u : Nat → Int} {r : Nat} (h : ∀ b, b ≤ C → B.testBit b = true → ro b ≠ r) : uN B ro by' u (C + 1) r = u r := by
  unfold uN
  rw [if_neg]
  · omega
  · intro e
    obtain ⟨b, h1, h2⟩ := (exB_iff _).mp e
    rw [Bool.and_eq_true, decide_eq_true_iff] at h2
    exact h b (by omega) h2.1 h2.2
theorem uN_bd {B C : Nat} {by' : Int} {u : Nat → Int} (hby : 0 ≤ by') (r : Nat) : u r ≤ uN B ro by' u (C + 1) r ∧ uN B ro by' u (C + 1) r ≤ u r + by' := by
  unfold uN; split <;> omega
/-- what the nearest column's search gives -/
theorem tr_gap (hR : t + 1 ≤ R) (hR10 : R ≤ 10) (hW : ∀ r c, 1 ≤ r → r ≤ R → 1 ≤ c → c ≤ C → 0 ≤ W r c ∧ W r c ≤ 5766503906250000) (hro : RO C t ro) (hp : PR C R t W u v ro) (hK : u (t + 1) ≤ 5766503906250000) (h : TR C W u v sl ro cf B col j) (hc : ro col ≠ 0) {c : Nat} (h1 : 1 ≤ c) (h2 : c ≤ C) (hb : (B ||| 2 ^ col).testBit c = false) : cfG (B ||| 2 ^ col) W u v sl cf (ro col) col (C + 1) c ≤ C ∧ (B ||| 2 ^ col).testBit (cfG (B ||| 2 ^ col) W u v sl cf (ro col) col (C + 1) c) = true ∧ slG (B ||| 2 ^ col) W u v sl (ro col) (C + 1) c = gap W u v (ro (cfG (B ||| 2 ^ col) W u v sl cf (ro col) col (C + 1) c)) c ∧ ∀ b, b ≤ C → (B ||| 2 ^ col).testBit b = true → slG (B ||| 2 ^ col) W u v sl (ro col) (C + 1) c ≤ gap W u v (ro b) c := by
  obtain ⟨t1, t2, t3, t4, t5, t6, t7, t8⟩ := h
  have hbB : B.testBit c = false := by
    rw [tb_or] at hb
    cases e : B.testBit c with
    | false => rfl
    | true => rw [e] at hb; cases hb
  have rcol : 1 ≤ ro col ∧ ro col ≤ t + 1 := by
    by_cases e : col = 0
    · subst e; have := hro.1; omega
    · have := hro.2.1 col (by omega) t4; omega
  have hw := hW (ro col) c (by omega) (by omega) h1 h2
  have hvc := hp.2.2.2.1 c h2
  have huc := hp.2.2.2.2 (ro col) (by omega)
  by_cases e : 1 ≤ c ∧ c < C + 1 ∧ (B ||| 2 ^ col).testBit c = false ∧ gap W u v (ro col) c < sl c
  · unfold slG cfG
    rw [if_pos e, if_pos e]
    refine ⟨t4, by rw [tb_or]; simp, rfl, fun b hb1 hb2 => ?_⟩
    rw [tb_or, Bool.or_eq_true, decide_eq_true_iff] at hb2
    rcases hb2 with hb2 | rfl
    · have hj : 1 ≤ j := by
        rcases Nat.eq_zero_or_pos j with h0 | h0
        · rw [(t6 h0).2.1, Nat.zero_testBit] at hb2; cases hb2
        · exact h0
      have := ((t7 hj).2 c h1 h2 hbB).2.2.2 b hb1 hb2
      omega
    · exact Int.le_refl _
  · unfold slG cfG
    rw [if_neg e, if_neg e]
    have hge : sl c ≤ gap W u v (ro col) c := by
      rcases Int.lt_or_le (gap W u v (ro col) c) (sl c) with h9 | h9
      · exact absurd ⟨h1, by omega, hb, h9⟩ e
      · exact h9
    have hj : 1 ≤ j := by
      rcases Nat.eq_zero_or_pos j with h0 | h0
      · have := (t6 h0).2.2 c h2
        unfold gap at hge
        omega
      · exact h0
    obtain ⟨g1, g2, g3, g4⟩ := (t7 hj).2 c h1 h2 hbB
    refine ⟨g1, by rw [tb_or, g2]; rfl, g3, fun b hb1 hb2 => ?_⟩
    rw [tb_or, Bool.or_eq_true, decide_eq_true_iff] at hb2
    rcases hb2 with hb2 | rfl
    · exact g4 b hb1 hb2
    · exact hge
theorem tr_step (hR : t + 1 ≤ R) (hR10 : R ≤ 10) (hRC : R ≤ C) (hW : ∀ r c, 1 ≤ r → r ≤ R → 1 ≤ c → c ≤ C → 0 ≤ W r c ∧ W r c ≤ 5766503906250000) (hro : RO C t ro) (hp : PR C R t W u v ro) (hK : u (t + 1) ≤ 5766503906250000) (h : TR C W u v sl ro cf B col j) (hc : ro col ≠ 0) {nr : Nat} {le : Int} (n1 : 1 ≤ nr) (n2 : nr ≤ C) (n3 : (B ||| 2 ^ col).testBit nr = false) (n4 : le = slG (B ||| 2 ^ col) W u v sl (ro col) (C + 1) nr) (n5 : ∀ c, 1 ≤ c → c ≤ C → (B ||| 2 ^ col).testBit c = false → le ≤ slG (B ||| 2 ^ col) W u v sl (ro col) (C + 1) c) : (0 ≤ le ∧ le ≤ 5766503906250000) ∧ PR C R t W (uN (B ||| 2 ^ col) ro le u (C + 1)) (vN (B ||| 2 ^ col) le v (C + 1)) ro ∧ uN (B ||| 2 ^ col) ro le u (C + 1) (t + 1) ≤ 5766503906250000 ∧ TR C W (uN (B ||| 2 ^ col) ro le u (C + 1)) (vN (B ||| 2 ^ col) le v (C + 1)) (sN (B ||| 2 ^ col) le (slG (B ||| 2 ^ col) W u v sl (ro col) (C + 1)) (C + 1)) ro (cfG (B ||| 2 ^ col) W u v sl cf (ro col) col (C + 1)) (B ||| 2 ^ col) nr (j + 1) := by
  have hG := fun c => tr_gap (c := c) hR hR10 hW hro hp hK h hc
  have hcnt := (tr_lt h hro hc).1
  obtain ⟨fc, fc1, fc2, fc3⟩ := ro_free (by omega) hro
  obtain ⟨p1, p2, p3, p4, p5⟩ := hp
  obtain ⟨t1, t2, t3, t4, t5, t6, t7, rk, rk0, t8⟩ := h
  have rr : ∀ b, b ≤ C → ro b ≠ 0 → 1 ≤ ro b ∧ ro b ≤ t + 1 := fun b hb hz => by
    by_cases e : b = 0
    · subst e; have := hro.1; omega
    · have := hro.2.1 b (by omega) hb; omega
  have hB' : ∀ c, (B ||| 2 ^ col).testBit c = true → ro c ≠ 0 := fun c hb => by
    rw [tb_or, Bool.or_eq_true, decide_eq_true_iff] at hb
    rcases hb with hb | rfl
    · exact t2 c hb
    · exact hc
  have h0B : (B ||| 2 ^ col).testBit 0 = true := by
    rw [tb_or]
    rcases Nat.eq_zero_or_pos j with h0 | h0
    · rw [(t6 h0).1]; simp
    · rw [(t7 h0).1]; rfl
  have hBl : (B ||| 2 ^ col) < 2 ^ (C + 1) := Nat.or_lt_two_pow t1 (two_lt (by omega))
  have tin : ∀ c, (B ||| 2 ^ col).testBit c = false → B.testBit c = false := fun c hb => by
    rw [tb_or] at hb
    cases e : B.testBit c with
    | false => rfl
    | true => rw [e] at hb; cases hb
  have told : ∀ c, c ≤ C → (B ||| 2 ^ col).testBit c = true → c ≠ 0 → cf c ≤ C ∧ B.testBit (cf c) = true ∧ gap W u v (ro (cf c)) c = 0 ∧ rk (cf c) < rk c ∧ rk c ≤ j := fun c hc1 hb hz => by
    refine t8 c hc1 ?_ hz
    rw [tb_or, Bool.or_eq_true, decide_eq_true_iff] at hb
    exact hb.imp id Eq.symm
  have tkeep : ∀ c, (B ||| 2 ^ col).testBit c = true → cfG (B ||| 2 ^ col) W u v sl cf (ro col) col (C + 1) c = cf c := fun c hb => by
    unfold cfG; rw [if_neg (by rw [hb]; simp)]
  generalize hBe : (B ||| 2 ^ col) = B' at *
  generalize hse : slG B' W u v sl (ro col) (C + 1) = s1 at *
  generalize hce : cfG B' W u v sl cf (ro col) col (C + 1) = c1 at *
  -- the shift
  obtain ⟨g1, g2, g3, g4⟩ := hG nr n1 n2 n3
  have hle0 : 0 ≤ le := by
    have hz := rr _ g1 (hB' _ g2)
    have := p1 (ro (c1 nr)) nr hz.1 (by omega) n1 n2
    rw [n4, g3]; unfold gap; omega
  have hfcB : B'.testBit fc = false := by
    cases e : B'.testBit fc with
    | false => rfl
    | true => exact absurd fc3 (hB' fc e)
  have hle1 : le ≤ 5766503906250000 - u (t + 1) := by
    have a1 := n5 fc fc1 fc2 hfcB
    have a2 := (hG fc fc1 fc2 hfcB).2.2.2 0 (by omega) h0B
    have a3 := hW (t + 1) fc (by omega) (by omega) fc1 fc2
    have a4 := p3 fc fc1 fc2 fc3
    rw [hro.1] at a2
    unfold gap at a2
    omega
  have hut : uN B' ro le u (C + 1) (t + 1) = u (t + 1) + le := by
    have := uN_in (ro := ro) (by' := le) (u := u) (show 0 ≤ C by omega) h0B
    rw [hro.1] at this; exact this
  have hu0 := p5 (t + 1) (by omega)
  -- prices in and out of the tree
  have vin : ∀ c, c ≤ C → B'.testBit c = true → vN B' le v (C + 1) c = v c - le := fun c hc1 hb => by unfold vN; rw [if_pos ⟨by omega, hb⟩]
  have vout : ∀ c, B'.testBit c = false → vN B' le v (C + 1) c = v c := fun c hb => by unfold vN; rw [if_neg (by rw [hb]; simp)]
  have sout : ∀ c, c ≤ C → B'.testBit c = false → sN B' le s1 (C + 1) c = s1 c - le := fun c hc1 hb => by unfold sN; rw [if_pos ⟨by omega, hb⟩]
  have gin : ∀ b c, b ≤ C → c ≤ C → B'.testBit b = true → B'.testBit c = true → gap W (uN B' ro le u (C + 1)) (vN B' le v (C + 1)) (ro b) c = gap W u v (ro b) c := fun b c hb1 hc1 hb hcb => by
    unfold gap; rw [uN_in hb1 hb, vin c hc1 hcb]; omega
  have gout : ∀ b c, b ≤ C → c ≤ C → B'.testBit b = true → B'.testBit c = false → gap W (uN B' ro le u (C + 1)) (vN B' le v (C + 1)) (ro b) c = gap W u v (ro b) c - le := fun b c hb1 hc1 hb hcb => by
    unfold gap; rw [uN_in hb1 hb, vout c hcb]; omega
  refine ⟨⟨hle0, by omega⟩, ⟨?_, ?_, ?_, ?_, ?_⟩, by omega, hBl, hB', hcnt, n2, n3, fun e => by omega, fun _ => ⟨h0B, fun c a1 a2 a3 => ?_⟩, fun c => if c = nr then j + 1 else rk c, (by show (if 0 = nr then j + 1 else rk 0) = 0; rw [if_neg (by omega)]; exact rk0), fun c a1 a2 a3 => ?_⟩
  · intro r c a1 a2 a3 a4
    have a5 := p1 r c a1 a2 a3 a4
    rcases Classical.em (∃ b, b ≤ C ∧ B'.testBit b = true ∧ ro b = r) with ⟨b, b1, b2, rfl⟩ | hnb
    · rw [uN_in b1 b2]
      cases e : B'.testBit c with
      | true => rw [vin c a4 e]; omega
      | false =>
        rw [vout c e]
        have a6 := n5 c a3 a4 e
        have a7 := (hG c a3 a4 e).2.2.2 b b1 b2
        unfold gap at a7; omega
    · rw [uN_out (fun b b1 b2 b3 => hnb ⟨b, b1, b2, b3⟩)]
      cases e : B'.testBit c with
      | true => rw [vin c a4 e]; omega
      | false => rw [vout c e]; omega
  · intro c a1 a2 a3
    have a4 := p2 c a1 a2 a3
    cases e : B'.testBit c with
    | true => rw [uN_in a2 e, vin c a2 e]; omega
    | false =>
      rw [vout c e, uN_out (fun b b1 b2 b3 => ?_)]
      · exact a4
      · have := hro.2.2.1 b c b1 a2 b3 (by rw [b3]; exact a3)
        subst this
        rw [e] at b2; cases b2
  · intro c a1 a2 a3
    have e : B'.testBit c = false := by
      cases e : B'.testBit c with
      | false => rfl
      | true => exact absurd a3 (hB' c e)
    rw [vout c e]; exact p3 c a1 a2 a3
  · intro c a1
    have a2 := p4 c a1
    rw [hut]
    cases e : B'.testBit c with
    | true => rw [vin c a1 e]; omega
    | false => rw [vout c e]; omega
  · intro r a1
    have a2 := p5 r a1
    have a3 := uN_bd (B := B') (C := C) (ro := ro) (u := u) hle0 r
    rw [hut]; omega
  · obtain ⟨k1, k2, k3, k4⟩ := hG c a1 a2 a3
    refine ⟨k1, k2, ?_, fun b b1 b2 => ?_⟩
    · rw [sout c a2 a3, gout _ c k1 a2 k2 a3, k3]
    · have := k4 b b1 b2
      rw [sout c a2 a3, gout b c b1 a2 b2 a3]; omega
  · by_cases ec : c = nr
    · subst ec
      refine ⟨g1, g2, ?_, ?_, ?_⟩
      · rw [gout _ c g1 n2 g2 n3, n4, g3]; omega
      · have hne : c1 c ≠ c := fun e => by rw [e, n3] at g2; cases g2
        show (if c1 c = c then j + 1 else rk (c1 c)) < (if c = c then j + 1 else rk c)
        rw [if_neg hne, if_pos rfl]
        by_cases ez : c1 c = 0
        · rw [ez, rk0]; omega
        · have := (told (c1 c) g1 g2 ez).2.2.2.2
          omega
      · show (if c = c then j + 1 else rk c) ≤ j + 1
        rw [if_pos rfl]; omega
    · have hb : B'.testBit c = true := a2.resolve_right ec
      obtain ⟨k1, k2, k3, k4, k5⟩ := told c a1 hb a3
      have k2' : B'.testBit (cf c) = true := by rw [← hBe, tb_or, k2]; rfl
      rw [tkeep c hb]
      have hne : cf c ≠ nr := fun e => by rw [e, n3] at k2'; cases k2'
      refine ⟨k1, k2', by rw [gin _ c k1 a1 k2' hb]; exact k3, ?_, ?_⟩
      · show (if cf c = nr then j + 1 else rk (cf c)) < (if c = nr then j + 1 else rk c)
        rw [if_neg hne, if_neg ec]; exact k4
      · show (if c = nr then j + 1 else rk c) ≤ j + 1
        rw [if_neg ec]; omega
end PLC
