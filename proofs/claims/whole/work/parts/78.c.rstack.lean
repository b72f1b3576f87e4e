/-! the reference's way of THE RULE: two stacks -/
def opn : List Int → Nat
  | [] => 0
  | x :: w => (if x = 33 ∨ x = 40 then 1 else 0) + opn w
def rk (x : Int) : Int := if x = 124 then 1 else if x = 38 then 2 else if x = 60 ∨ x = 61 ∨ x = 62 then 3 else if x = 43 ∨ x = 45 then 4 else 0
def stl (r : Int) : List Int → List Int → List Int × List Int
  | l, [] => (l, [])
  | l, x :: w => if x = 40 then (l, x :: w) else if x = 33 then (if 2 < r then (l, x :: w) else stl r (l ++ [-33]) w) else if rk x < r then (l, x :: w) else stl r (l ++ [-x]) w
theorem stl_c (r : Int) (l : List Int) (x : Int) (w : List Int) : stl r l (x :: w) = if x = 40 then (l, x :: w) else if x = 33 then (if 2 < r then (l, x :: w) else stl r (l ++ [-33]) w) else if rk x < r then (l, x :: w) else stl r (l ++ [-x]) w := rfl
/-- nothing to settle -/
def nfr (r : Int) : List Int → Prop
  | [] => True
  | x :: _ => x = 40 ∨ (x ≠ 33 ∧ rk x < r)
theorem stl_nf {r : Int} {l : List Int} : ∀ {w : List Int}, nfr r w → stl r l w = (l, w)
  | [], _ => rfl
  | x :: w, h => by
    rw [stl_c]
    rcases h with h | ⟨h1, h2⟩
    · rw [if_pos h]
    · by_cases c : x = 40
      · rw [if_pos c]
      · rw [if_neg c, if_neg h1, if_pos h2]
theorem stl_stl {r r' : Int} (h : r ≤ r') (h2 : r' ≤ 2) : ∀ (w l : List Int), stl r (stl r' l w).1 (stl r' l w).2 = stl r l w
  | [], _ => rfl
  | x :: w, l => by
    rw [stl_c r' l x w]
    by_cases c1 : x = 40
    · rw [if_pos c1]
    · rw [if_neg c1]
      by_cases c2 : x = 33
      · rw [if_pos c2, if_neg (by omega), stl_stl h h2 w, stl_c r l x w, if_neg c1, if_pos c2, if_neg (by omega)]
      · rw [if_neg c2]
        by_cases c3 : rk x < r'
        · rw [if_pos c3]
        · rw [if_neg c3, stl_stl h h2 w, stl_c r l x w, if_neg c1, if_neg c2, if_neg (by omega)]
abbrev PSt : Type := Bool × (Nat × Nat) × List Int × List Int
def adY (n : Nat) (b : Nat → Int) (y : Nat × Nat) : Nat × Nat := (tEn n b y.1, tks n b 4 (tEn n b y.1) y.2)
def pstA (n : Nat) (b : Nat → Int) (y : Nat × Nat) (l w : List Int) : PSt ⊕ Rs := if ckd n b 4 y.1 = 33 ∨ ckd n b 4 y.1 = 40 then (if opn w = 8 then .inr (.inr (4, (tPl n b y.1 : Int)), []) else .inl (true, adY n b y, l, ckd n b 4 y.1 :: w)) else (match (ruC n b (.inl y, l)).1 with
  | .inl y' => .inl (false, y', (ruC n b (.inl y, l)).2, w)
  | .inr e => .inr (.inr e, []))
def pstB (n : Nat) (b : Nat → Int) (y : Nat × Nat) (l w : List Int) : PSt ⊕ Rs := if ckd n b 4 y.1 = 38 then .inl (true, adY n b y, (stl 2 l w).1, 38 :: (stl 2 l w).2) else if ckd n b 4 y.1 = 124 then .inl (true, adY n b y, (stl 1 l w).1, 124 :: (stl 1 l w).2) else if ckd n b 4 y.1 = 41 then (if (stl 1 l w).2 = [] then .inr (.inr (1, (tPl n b y.1 : Int)), []) else .inl (false, adY n b y, (stl 2 (stl 1 l w).1 (stl 1 l w).2.tail).1, (stl 2 (stl 1 l w).1 (stl 1 l w).2.tail).2)) else if ckd n b 4 y.1 = -1 ∧ (stl 1 l w).2 = [] then .inr (.inl y, (stl 1 l w).1) else .inr (.inr (1, (tPl n b y.1 : Int)), [])
def pst (n : Nat) (b : Nat → Int) (s : PSt) : PSt ⊕ Rs := if s.1 = true then pstA n b s.2.1 s.2.2.1 s.2.2.2 else pstB n b s.2.1 s.2.2.1 s.2.2.2
def prn (n : Nat) (b : Nat → Int) : Nat → PSt → Rs
  | 0, _ => (.inr (0, 0), [])
  | f + 1, s => Sum.elim (fun s' => prn n b f s') (fun r => r) (pst n b s)
noncomputable def RUNp (n : Nat) (b : Nat → Int) (s : PSt) : Rs := prn n b FU s
noncomputable def RELp (n : Nat) (b : Nat → Int) (q : Rs) (w : List Int) : Rs := match q.1 with
  | .inl y => RUNp n b (false, y, q.2, w)
  | .inr e => (.inr e, [])
section PSS
variable {n : Nat} {b : Nat → Int} {y y' : Nat × Nat} {l w : List Int} {one : Rs → Rs} {o : Nat}
theorem adY_p (ho : OKt n b) (hp : y.1 ≤ n) (hk : ckd n b 4 y.1 ≠ -1) : y.1 < (adY n b y).1 ∧ (adY n b y).1 ≤ n := by
  have := (Pg_A ho (q := (.inl y, [])) hk trivial).2 hp
  have h2 : y.1 + 1 ≤ tEn n b y.1 := this.2.1
  exact ⟨by show y.1 < tEn n b y.1; omega, this.2.2⟩
theorem pst_p (ho : OKt n b) {s s' : PSt} (hp : s.2.1.1 ≤ n) (h : pst n b s = .inl s') : s.2.1.1 < s'.2.1.1 ∧ s'.2.1.1 ≤ n := by
  obtain ⟨ph, y, l, w⟩ := s
  have hp : y.1 ≤ n := hp
  show y.1 < s'.2.1.1 ∧ _
  cases ph with
  | true =>
    have h : pstA n b y l w = .inl s' := h
    unfold pstA at h
    split at h
    · rename_i c
      split at h
      · cases h
      · cases h
        exact adY_p ho hp (by omega)
    · split at h
      · rename_i y' hy
        cases h
        have := (Pg_C ho (q := (.inl y, l)) (by rw [hy]; trivial)).2 hp
        rw [hy] at this
        have t1 : y.1 + 3 ≤ y'.1 := this.2.1
        exact ⟨by show y.1 < y'.1; omega, this.2.2⟩
      · cases h
  | false =>
    have h : pstB n b y l w = .inl s' := h
    unfold pstB at h
    split at h
    · cases h; exact adY_p ho hp (by omega)
    · split at h
      · cases h; exact adY_p ho hp (by omega)
      · split at h
        · split at h
          · cases h
          · cases h; exact adY_p ho hp (by omega)
        · split at h <;> cases h
theorem prn_st (ho : OKt n b) : ∀ f s, n < f + s.2.1.1 → s.2.1.1 ≤ n → prn n b (f + 1) s = prn n b f s
  | 0, s, h1, h2 => by omega
  | f + 1, s, h1, h2 => by
    show Sum.elim (fun s' => prn n b (f + 1) s') (fun r => r) (pst n b s) = Sum.elim (fun s' => prn n b f s') (fun r => r) (pst n b s)
    cases h : pst n b s with
    | inr r => rfl
    | inl s' =>
      have := pst_p ho h2 h
      exact prn_st ho f s' (by omega) this.2
theorem RUN_eq (ho : OKt n b) {s : PSt} (hp : s.2.1.1 ≤ n) : RUNp n b s = Sum.elim (fun s' => RUNp n b s') (fun r => r) (pst n b s) := by
  obtain ⟨k, hk, hk2⟩ : ∃ k, FU = k + 1 ∧ 801 ≤ k := ⟨999999, FU_eq, by decide⟩
  unfold RUNp
  rw [hk]
  show Sum.elim (fun s' => prn n b k s') (fun r => r) (pst n b s) = _
  cases h : pst n b s with
  | inr r => rfl
  | inl s' =>
    have := pst_p ho hp h
    have hn := ho.1
    exact (prn_st ho k s' (by omega) this.2).symm
theorem RUN_A (ho : OKt n b) (hp : y.1 ≤ n) : RUNp n b (true, y, l, w) = Sum.elim (fun s' => RUNp n b s') (fun r => r) (pstA n b y l w) := RUN_eq ho (s := (true, y, l, w)) hp
theorem RUN_B (ho : OKt n b) (hp : y.1 ≤ n) : RUNp n b (false, y, l, w) = Sum.elim (fun s' => RUNp n b s') (fun r => r) (pstB n b y l w) := RUN_eq ho (s := (false, y, l, w)) hp
theorem B_eq2 (ho : OKt n b) (hp : y.1 ≤ n) : RUNp n b (false, y, l, w) = RUNp n b (false, y, (stl 2 l w).1, (stl 2 l w).2) := by
  rw [RUN_B ho hp, RUN_B ho hp]
  have : pstB n b y l w = pstB n b y (stl 2 l w).1 (stl 2 l w).2 := by
    unfold pstB
    rw [stl_stl (r := 2) (r' := 2) (by decide) (by decide), stl_stl (r := 1) (r' := 2) (by decide) (by decide)]
  rw [this]
theorem B_eq1 (ho : OKt n b) (hp : y.1 ≤ n) (hk : ckd n b 4 y.1 ≠ 38) : RUNp n b (false, y, l, w) = RUNp n b (false, y, (stl 1 l w).1, (stl 1 l w).2) := by
  rw [RUN_B ho hp, RUN_B ho hp]
  have : pstB n b y l w = pstB n b y (stl 1 l w).1 (stl 1 l w).2 := by
    unfold pstB
    rw [if_neg hk, if_neg hk, stl_stl (r := 1) (r' := 1) (by decide) (by decide)]
  rw [this]
theorem B_pop (ho : OKt n b) (hp : y.1 ≤ n) {x : Int} (hx : x = 33 ∨ x = 38) : RUNp n b (false, y, l, x :: w) = RUNp n b (false, y, l ++ [-x], w) := by
  rw [B_eq2 ho hp, B_eq2 ho hp (l := l ++ [-x])]
  have : stl 2 l (x :: w) = stl 2 (l ++ [-x]) w := by
    rcases hx with rfl | rfl
    · rfl
    · rfl
  rw [this]
theorem B_pop1 (ho : OKt n b) (hp : y.1 ≤ n) (hk : ckd n b 4 y.1 ≠ 38) : RUNp n b (false, y, l, 124 :: w) = RUNp n b (false, y, l ++ [-124], w) := by
  rw [B_eq1 ho hp hk, B_eq1 ho hp hk (l := l ++ [-124])]
  have : stl 1 l (124 :: w) = stl 1 (l ++ [-124]) w := rfl
  rw [this]
theorem ruW_lt {x : Int} {q : Rs} (h : q.2.length < 800) : ruW x q = (q.1, q.2 ++ [x]) := by unfold ruW; rw [if_pos h]
/-- what one operand does -/
def HOne (n : Nat) (b : Nat → Int) (o : Nat) (one : Rs → Rs) : Prop := ∀ (y : Nat × Nat) (l w : List Int), y.1 ≤ n → l.length ≤ y.1 → opn w = o → RUNp n b (true, y, l, w) = RELp n b (one (.inl y, l)) w
theorem Bl_thm (ho : OKt n b) (h1 : ∀ q, Pgr n 0 1 q (one q)) (hO : HOne n b o one) : ∀ f (y : Nat × Nat) (l w : List Int), nfr 2 w → opn w = o → y.1 ≤ n → l.length ≤ y.1 → RUNp n b (false, y, l, w) = RELp n b (ruBl n b one f (.inl y, l)) w
  | 0, _, _, _, _, _, _, _ => rfl
  | f + 1, y, l, w, hw, hop, hp, hl => by
    have un : ruBl n b one (f + 1) (.inl y, l) = if ckd n b 4 y.1 = 38 then ruBl n b one f (ruW (-38) (one (.inl (adY n b y), l))) else (.inl y, l) := rfl
    rw [un]
    by_cases c : ckd n b 4 y.1 = 38
    · rw [if_pos c]
      have ay := adY_p ho hp (by omega)
      have e1 : RUNp n b (false, y, l, w) = RUNp n b (true, adY n b y, l, 38 :: w) := by
        rw [RUN_B ho hp]; unfold pstB; rw [if_pos c, stl_nf hw]; rfl
      rw [e1, hO _ _ _ ay.2 (by omega) (show opn (38 :: w) = o by show 0 + opn w = o; omega)]
      have pg := h1 (.inl (adY n b y), l)
      cases hz : (one (.inl (adY n b y), l)).1 with
      | inr e =>
        have e2 : (ruW (-38) (one (.inl (adY n b y), l))).1 = .inr e := hz
        rw [ruBl_inr (by rw [e2]; exact fun h => h)]
        unfold RELp
        rw [hz, e2]
      | inl y' =>
        have pg := (pg (by rw [hz]; trivial)).2 ay.2
        rw [hz] at pg
        have p1 : (((one (.inl (adY n b y), l)).2.length : Nat) : Int) + ((adY n b y).1 : Int) + 0 ≤ (l.length : Int) + (y'.1 : Int) := pg.1
        have p3 : y'.1 ≤ n := pg.2.2
        have hn := ho.1
        have e3 : RELp n b (one (.inl (adY n b y), l)) (38 :: w) = RUNp n b (false, y', (one (.inl (adY n b y), l)).2, 38 :: w) := by unfold RELp; rw [hz]
        rw [e3, B_pop ho p3 (Or.inr rfl), ruW_lt (by omega), hz]
        exact Bl_thm ho h1 hO f y' _ w hw hop p3 (by rw [len_app]; omega)
    · rw [if_neg c]; rfl
theorem B_thm (ho : OKt n b) (h1 : ∀ q, Pgr n 0 1 q (one q)) (hO : HOne n b o one) (hw : nfr 2 w) (hop : opn w = o) (hp : y.1 ≤ n) (hl : l.length ≤ y.1) : RUNp n b (true, y, l, w) = RELp n b (ruB n b one (.inl y, l)) w := by
  rw [hO _ _ _ hp hl hop]
  unfold ruB
  have pg := h1 (.inl y, l)
  cases hz : (one (.inl y, l)).1 with
  | inr e =>
    rw [ruBl_inr (by rw [hz]; exact fun h => h)]
  | inl y' =>
    have pg := (pg (by rw [hz]; trivial)).2 hp
    rw [hz] at pg
    have p1 : (((one (.inl y, l)).2.length : Nat) : Int) + (y.1 : Int) + 0 ≤ (l.length : Int) + (y'.1 : Int) := pg.1
    have e1 : one (.inl y, l) = (.inl y', (one (.inl y, l)).2) := by rw [← hz]
    rw [e1]
    exact Bl_thm ho h1 hO 800 y' (one (.inl y, l)).2 w hw hop pg.2.2 (by omega)
theorem B_k (ho : OKt n b) (h1 : ∀ q, Pgr n 0 1 q (one q)) (hp : y.1 ≤ n) (hz : (ruB n b one (.inl y, l)).1 = .inl y') : ckd n b 4 y'.1 ≠ 38 := by
  have hi : isI (ruB n b one (.inl y, l)).1 := by rw [hz]; trivial
  have hi2 := (Pg_Bl ho h1 800 _ hi).1
  have := (h1 _ hi2).2 hp
  have hn := ho.1
  have := Bl_end ho h1 800 _ hi (by omega) this.2.2
  have e : zK n b 4 (ruB n b one (.inl y, l)).1 = ckd n b 4 y'.1 := by rw [hz]; rfl
  rw [← e]; exact this
theorem nfr_12 (h : nfr 1 w) : nfr 2 w := by
  cases w with
  | nil => trivial
  | cons x w =>
    rcases h with h | ⟨h1, h2⟩
    · exact Or.inl h
    · exact Or.inr ⟨h1, by omega⟩
theorem El_thm (ho : OKt n b) (h1 : ∀ q, Pgr n 0 1 q (one q)) (hO : HOne n b o one) : ∀ f (y : Nat × Nat) (l w : List Int), nfr 1 w → opn w = o → y.1 ≤ n → l.length ≤ y.1 → RUNp n b (false, y, l, w) = RELp n b (ruEl n b one f (.inl y, l)) w
  | 0, _, _, _, _, _, _, _ => rfl
  | f + 1, y, l, w, hw, hop, hp, hl => by
    have un : ruEl n b one (f + 1) (.inl y, l) = if ckd n b 4 y.1 = 124 then ruEl n b one f (ruW (-124) (ruB n b one (.inl (adY n b y), l))) else (.inl y, l) := rfl
    rw [un]
    by_cases c : ckd n b 4 y.1 = 124
    · rw [if_pos c]
      have ay := adY_p ho hp (by omega)
      have e1 : RUNp n b (false, y, l, w) = RUNp n b (true, adY n b y, l, 124 :: w) := by
        rw [RUN_B ho hp]; unfold pstB; rw [if_neg (by omega), if_pos c, stl_nf hw]; rfl
      rw [e1, B_thm ho h1 hO (show nfr 2 (124 :: w) from Or.inr ⟨by decide, by decide⟩) (show opn (124 :: w) = o by show 0 + opn w = o; omega) ay.2 (by omega)]
      have pg : Pgr n 0 1 (.inl (adY n b y), l) (ruB n b one (.inl (adY n b y), l)) := Pg_B ho h1
      cases hz : (ruB n b one (.inl (adY n b y), l)).1 with
      | inr e =>
        have e2 : (ruW (-124) (ruB n b one (.inl (adY n b y), l))).1 = .inr e := hz
        rw [ruEl_inr (by rw [e2]; exact fun h => h)]
        unfold RELp
        rw [hz, e2]
      | inl y' =>
        have pg := (pg (by rw [hz]; trivial)).2 ay.2
        rw [hz] at pg
        have p1 : (((ruB n b one (.inl (adY n b y), l)).2.length : Nat) : Int) + ((adY n b y).1 : Int) + 0 ≤ (l.length : Int) + (y'.1 : Int) := pg.1
        have p3 : y'.1 ≤ n := pg.2.2
        have hn := ho.1
        have e3 : RELp n b (ruB n b one (.inl (adY n b y), l)) (124 :: w) = RUNp n b (false, y', (ruB n b one (.inl (adY n b y), l)).2, 124 :: w) := by unfold RELp; rw [hz]
        rw [e3, B_pop1 ho p3 (B_k ho h1 ay.2 hz), ruW_lt (by omega), hz]
        exact El_thm ho h1 hO f y' _ w hw hop p3 (by rw [len_app]; omega)
    · rw [if_neg c]; rfl
theorem E_thm (ho : OKt n b) (h1 : ∀ q, Pgr n 0 1 q (one q)) (hO : HOne n b o one) (hw : nfr 1 w) (hop : opn w = o) (hp : y.1 ≤ n) (hl : l.length ≤ y.1) : RUNp n b (true, y, l, w) = RELp n b (ruE n b one (.inl y, l)) w := by
  rw [B_thm ho h1 hO (nfr_12 hw) hop hp hl]
  unfold ruE
  have pg : Pgr n 0 1 (.inl y, l) (ruB n b one (.inl y, l)) := Pg_B ho h1
  cases hz : (ruB n b one (.inl y, l)).1 with
  | inr e => rw [ruEl_inr (by rw [hz]; exact fun h => h)]
  | inl y' =>
    have pg := (pg (by rw [hz]; trivial)).2 hp
    rw [hz] at pg
    have p1 : (((ruB n b one (.inl y, l)).2.length : Nat) : Int) + (y.1 : Int) + 0 ≤ (l.length : Int) + (y'.1 : Int) := pg.1
    have e1 : ruB n b one (.inl y, l) = (.inl y', (ruB n b one (.inl y, l)).2) := by rw [← hz]
    rw [e1]
    exact El_thm ho h1 hO 800 y' (ruB n b one (.inl y, l)).2 w hw hop pg.2.2 (by omega)
theorem E_k (ho : OKt n b) (h1 : ∀ q, Pgr n 0 1 q (one q)) (hp : y.1 ≤ n) (hz : (ruE n b one (.inl y, l)).1 = .inl y') : ckd n b 4 y'.1 ≠ 38 ∧ ckd n b 4 y'.1 ≠ 124 ∧ y'.1 ≤ n := by
  have hi : isI (ruE n b one (.inl y, l)).1 := by rw [hz]; trivial
  have hi2 := (Pg_El ho h1 800 _ hi).1
  have hi3 := (Pg_Bl ho h1 800 _ hi2).1
  have l1 := (h1 _ hi3).2 hp
  have l2 := (Pg_B ho h1 hi2).2 hp
  have l3 := (Pg_E ho h1 hi).2 hp
  have hn := ho.1
  have := El_end ho h1 800 _ hi (by omega) l2.2.2 (Bl_end ho h1 800 _ hi2 (by omega) l1.2.2)
  have e : zK n b 4 (ruE n b one (.inl y, l)).1 = ckd n b 4 y'.1 := by rw [hz]; rfl
  rw [← e]
  rw [hz] at l3
  exact ⟨this.1, this.2, l3.2.2⟩
theorem C_thm (ho : OKt n b) (hp : y.1 ≤ n) (c1 : ckd n b 4 y.1 ≠ 33) (c2 : ckd n b 4 y.1 ≠ 40) : RUNp n b (true, y, l, w) = RELp n b (ruC n b (.inl y, l)) w := by
  rw [RUN_A ho hp]
  unfold pstA RELp
  rw [if_neg (by omega)]
  cases (ruC n b (.inl y, l)).1 with
  | inl y' => rfl
  | inr e => rfl
theorem O_thm (ho : OKt n b) : ∀ g, g ≤ 8 → HOne n b (8 - g) (ruO n b g)
  | 0, _, y, l, w, hp, hl, hop => by
    have un : ruO n b 0 (.inl y, l) = if ckd n b 4 y.1 = 33 ∨ ckd n b 4 y.1 = 40 then (.inr (4, (tPl n b y.1 : Int)), l) else ruC n b (.inl y, l) := rfl
    rw [un]
    by_cases c : ckd n b 4 y.1 = 33 ∨ ckd n b 4 y.1 = 40
    · rw [if_pos c, RUN_A ho hp]
      unfold pstA
      rw [if_pos c, if_pos (by omega)]; rfl
    · rw [if_neg c]; exact C_thm ho hp (by omega) (by omega)
  | g + 1, hg, y, l, w, hp, hl, hop => by
    have ih := O_thm ho g (by omega)
    have un : ruO n b (g + 1) (.inl y, l) = if ckd n b 4 y.1 = 33 then ruW (-33) (ruO n b g (.inl (adY n b y), l)) else if ckd n b 4 y.1 = 40 then ruT n b (ruE n b (ruO n b g) (.inl (adY n b y), l)) else ruC n b (.inl y, l) := rfl
    rw [un]
    have e0 : (ckd n b 4 y.1 = 33 ∨ ckd n b 4 y.1 = 40) → RUNp n b (true, y, l, w) = RUNp n b (true, adY n b y, l, ckd n b 4 y.1 :: w) := fun c => by
      rw [RUN_A ho hp]
      unfold pstA
      rw [if_pos c, if_neg (by omega)]; rfl
    have hn := ho.1
    by_cases c1 : ckd n b 4 y.1 = 33
    · have ay := adY_p ho hp (by omega)
      rw [if_pos c1, e0 (Or.inl c1), c1, ih _ _ _ ay.2 (by omega) (show opn (33 :: w) = 8 - g by show 1 + opn w = 8 - g; omega)]
      have pg := Pg_O ho g (.inl (adY n b y), l)
      cases hz : (ruO n b g (.inl (adY n b y), l)).1 with
      | inr e =>
        have e2 : (ruW (-33) (ruO n b g (.inl (adY n b y), l))).1 = .inr e := hz
        unfold RELp
        rw [hz, e2]
      | inl y' =>
        have pg := (pg (by rw [hz]; trivial)).2 ay.2
        rw [hz] at pg
        have p1 : (((ruO n b g (.inl (adY n b y), l)).2.length : Nat) : Int) + ((adY n b y).1 : Int) + 0 ≤ (l.length : Int) + (y'.1 : Int) := pg.1
        have p3 : y'.1 ≤ n := pg.2.2
        have e3 : RELp n b (ruO n b g (.inl (adY n b y), l)) (33 :: w) = RUNp n b (false, y', (ruO n b g (.inl (adY n b y), l)).2, 33 :: w) := by unfold RELp; rw [hz]
        rw [e3, B_pop ho p3 (Or.inl rfl), ruW_lt (by omega), hz]; rfl
    · rw [if_neg c1]
      by_cases c2 : ckd n b 4 y.1 = 40
      · have ay := adY_p ho hp (by omega)
        rw [if_pos c2, e0 (Or.inr c2), c2, E_thm ho (Pg_O ho g) ih (show nfr 1 (40 :: w) from Or.inl rfl) (show opn (40 :: w) = 8 - g by show 1 + opn w = 8 - g; omega) ay.2 (by omega)]
        cases hz : (ruE n b (ruO n b g) (.inl (adY n b y), l)).1 with
        | inr e =>
          have e2 : (ruT n b (ruE n b (ruO n b g) (.inl (adY n b y), l))).1 = .inr e := by
            show zTake n b 4 41 (ruE n b (ruO n b g) (.inl (adY n b y), l)).1 = _
            rw [hz]; exact zTake_inr (by decide) (fun h => h)
          unfold RELp
          rw [hz, e2]
        | inl y' =>
          obtain ⟨k1, k2, k3⟩ := E_k ho (Pg_O ho g) ay.2 hz
          have e3 : RELp n b (ruE n b (ruO n b g) (.inl (adY n b y), l)) (40 :: w) = RUNp n b (false, y', (ruE n b (ruO n b g) (.inl (adY n b y), l)).2, 40 :: w) := by unfold RELp; rw [hz]
          have e4 : (ruT n b (ruE n b (ruO n b g) (.inl (adY n b y), l))).1 = if ckd n b 4 y'.1 = 41 then .inl (adY n b y') else .inr (1, (tPl n b y'.1 : Int)) := by
            show zTake n b 4 41 (ruE n b (ruO n b g) (.inl (adY n b y), l)).1 = _
            rw [hz]
            show zN n b 4 (if ckd n b 4 y'.1 = 41 then .inl y' else zF n b 1 (.inl y')) = _
            split <;> rfl
          have eR : RELp n b (ruT n b (ruE n b (ruO n b g) (.inl (adY n b y), l))) w = if ckd n b 4 y'.1 = 41 then RUNp n b (false, adY n b y', (ruE n b (ruO n b g) (.inl (adY n b y), l)).2, w) else (.inr (1, (tPl n b y'.1 : Int)), []) := by
            unfold RELp
            rw [e4]
            by_cases c3 : ckd n b 4 y'.1 = 41
            · rw [if_pos c3, if_pos c3]; rfl
            · rw [if_neg c3, if_neg c3]
          rw [e3, RUN_B ho k3, eR]
          generalize (ruE n b (ruO n b g) (.inl (adY n b y), l)).2 = l2 at *
          have e5 : stl 1 l2 (40 :: w) = (l2, 40 :: w) := rfl
          unfold pstB
          rw [if_neg k1, if_neg k2, e5]
          by_cases c3 : ckd n b 4 y'.1 = 41
          · rw [if_pos c3, if_pos c3]
            rw [if_neg (show ¬ ((l2, (40 : Int) :: w).2 = []) from fun h => by cases h)]
            show RUNp n b (false, adY n b y', (stl 2 l2 w).1, (stl 2 l2 w).2) = _
            rw [← B_eq2 ho (adY_p ho k3 (by omega)).2]
          · rw [if_neg c3, if_neg c3]
            rw [if_neg (show ¬ (ckd n b 4 y'.1 = -1 ∧ (l2, (40 : Int) :: w).2 = []) from fun h => by cases h.2)]
            rfl
      · rw [if_neg c2]; exact C_thm ho hp c1 c2
end PSS
