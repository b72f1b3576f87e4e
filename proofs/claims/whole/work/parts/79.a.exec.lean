/-! THE RULE's steps, worked on a stack -/
noncomputable def jnO (sg l r : Int) : Option Int := if sg = 43 then some (w32 (l + r)) else if sg = 45 then some (w32 (l - r)) else if sg = 60 then some (if l < r then 1 else 0) else if sg = 61 then some (if l = r then 1 else 0) else if sg = 62 then some (if r < l then 1 else 0) else if (sg = 38 ∨ sg = 124) ∧ (l = 0 ∨ l = 1) ∧ (r = 0 ∨ r = 1) then some (if sg = 38 then (if l = 0 ∨ r = 0 then 0 else 1) else (if l = 0 ∧ r = 0 then 0 else 1)) else none
noncomputable def exS (fs : Nat → Int) (D : Nat) (v : Int) (s : List Int) : Option (List Int) :=
  if 0 ≤ v then (if s.length < D then some (v :: s) else none)
  else if -5 ≤ v then (if s.length < D then some (fs (-1 - v).toNat :: s) else none)
  else if v = -33 then (match s with | x :: s => some ((if x = 0 then 1 else 0) :: s) | [] => none)
  else (match s with | r :: l :: s => (jnO (-v) l r).map (fun x => x :: s) | _ => none)
noncomputable def exL (fs : Nat → Int) (D : Nat) : List Int → List Int → Option (List Int)
  | [], s => some s
  | v :: l, s => (exS fs D v s).bind (exL fs D l)
theorem exL_app {fs : Nat → Int} {D : Nat} : ∀ (a b s : List Int), exL fs D (a ++ b) s = (exL fs D a s).bind (exL fs D b)
  | [], b, s => rfl
  | v :: a, b, s => by
    show (exS fs D v s).bind (exL fs D (a ++ b)) = ((exS fs D v s).bind (exL fs D a)).bind (exL fs D b)
    cases exS fs D v s with
    | none => rfl
    | some s' => exact exL_app a b s'
def SegN (d : Nat) (l : List Int) : Prop := ∀ (fs : Nat → Int) (D : Nat) (s : List Int), s.length + d ≤ D → ∃ v, exL fs D l s = some (v :: s)
def SegB (d : Nat) (l : List Int) : Prop := ∀ (fs : Nat → Int) (D : Nat) (s : List Int), s.length + d ≤ D → ∃ v, (v = 0 ∨ v = 1) ∧ exL fs D l s = some (v :: s)
theorem segN_w {d d' : Nat} {l : List Int} (h : SegN d l) (hd : d ≤ d') : SegN d' l := fun fs D s hs => h fs D s (by omega)
theorem segB_w {d d' : Nat} {l : List Int} (h : SegB d l) (hd : d ≤ d') : SegB d' l := fun fs D s hs => h fs D s (by omega)
theorem seg_val {v : Int} (h : -5 ≤ v) : SegN 1 [v] := fun fs D s hs => by
  show ∃ x, (exS fs D v s).bind (exL fs D []) = some (x :: s)
  unfold exS
  by_cases c : 0 ≤ v
  · rw [if_pos c, if_pos (by omega)]; exact ⟨_, rfl⟩
  · rw [if_neg c, if_pos h, if_pos (by omega)]; exact ⟨_, rfl⟩
theorem ex_op {fs : Nat → Int} {D : Nat} {sg l r x : Int} {s : List Int} (hs : 38 ≤ sg) (h : jnO sg l r = some x) : exL fs D [-sg] (r :: l :: s) = some (x :: s) := by
  show (exS fs D (-sg) (r :: l :: s)).bind (exL fs D []) = some (x :: s)
  unfold exS
  rw [if_neg (by omega), if_neg (by omega), if_neg (by omega)]
  show ((jnO (- -sg) l r).map (fun x => x :: s)).bind (exL fs D []) = _
  rw [Int.neg_neg, h]; rfl
theorem seg_op {d1 d2 d : Nat} {a b : List Int} (ha : SegN d1 a) (hb : SegN d2 b) {sg : Int} (hs : sg = 43 ∨ sg = 45) (h1 : d1 ≤ d) (h2 : d2 + 1 ≤ d) : SegN d (a ++ b ++ [-sg]) := fun fs D s hd => by
  obtain ⟨x, hx⟩ := ha fs D s (by omega)
  obtain ⟨y, hy⟩ := hb fs D (x :: s) (by show s.length + 1 + d2 ≤ D; omega)
  rw [exL_app, exL_app, hx, Option.bind_some, hy, Option.bind_some]
  rcases hs with e | e
  · exact ⟨_, ex_op (by omega) (by unfold jnO; rw [if_pos e])⟩
  · exact ⟨_, ex_op (by omega) (by unfold jnO; rw [if_neg (by omega), if_pos e])⟩
theorem b01 {c : Prop} [Decidable c] : (if c then (1 : Int) else 0) = 0 ∨ (if c then (1 : Int) else 0) = 1 := by
  split
  · exact Or.inr rfl
  · exact Or.inl rfl
theorem b10 {c : Prop} [Decidable c] : (if c then (0 : Int) else 1) = 0 ∨ (if c then (0 : Int) else 1) = 1 := by
  split
  · exact Or.inl rfl
  · exact Or.inr rfl
theorem seg_cmp {d1 d2 d : Nat} {a b : List Int} (ha : SegN d1 a) (hb : SegN d2 b) {sg : Int} (hs : sg = 60 ∨ sg = 61 ∨ sg = 62) (h1 : d1 ≤ d) (h2 : d2 + 1 ≤ d) : SegB d (a ++ b ++ [-sg]) := fun fs D s hd => by
  obtain ⟨x, hx⟩ := ha fs D s (by omega)
  obtain ⟨y, hy⟩ := hb fs D (x :: s) (by show s.length + 1 + d2 ≤ D; omega)
  rw [exL_app, exL_app, hx, Option.bind_some, hy, Option.bind_some]
  rcases hs with e | e | e
  · exact ⟨_, b01, ex_op (by omega) (by unfold jnO; rw [if_neg (by omega), if_neg (by omega), if_pos e])⟩
  · exact ⟨_, b01, ex_op (by omega) (by unfold jnO; rw [if_neg (by omega), if_neg (by omega), if_neg (by omega), if_pos e])⟩
  · exact ⟨_, b01, ex_op (by omega) (by unfold jnO; rw [if_neg (by omega), if_neg (by omega), if_neg (by omega), if_neg (by omega), if_pos e])⟩
theorem seg_and {d1 d2 d : Nat} {a b : List Int} (ha : SegB d1 a) (hb : SegB d2 b) {sg : Int} (hs : sg = 38 ∨ sg = 124) (h1 : d1 ≤ d) (h2 : d2 + 1 ≤ d) : SegB d (a ++ b ++ [-sg]) := fun fs D s hd => by
  obtain ⟨x, bx, hx⟩ := ha fs D s (by omega)
  obtain ⟨y, by', hy⟩ := hb fs D (x :: s) (by show s.length + 1 + d2 ≤ D; omega)
  rw [exL_app, exL_app, hx, Option.bind_some, hy, Option.bind_some]
  refine ⟨_, ?_, ex_op (by omega) (by unfold jnO; rw [if_neg (by omega), if_neg (by omega), if_neg (by omega), if_neg (by omega), if_neg (by omega), if_pos ⟨hs, bx, by'⟩])⟩
  split
  · exact b10
  · exact b10
theorem seg_not {d : Nat} {a : List Int} (ha : SegB d a) : SegB d (a ++ [-33]) := fun fs D s hd => by
  obtain ⟨x, bx, hx⟩ := ha fs D s hd
  rw [exL_app, hx, Option.bind_some]
  refine ⟨(if x = 0 then 1 else 0), b01, ?_⟩
  show (exS fs D (-33) (x :: s)).bind (exL fs D []) = _
  unfold exS
  rw [if_neg (by decide), if_neg (by decide), if_pos rfl]; rfl
/-! what is read works -/
section RDX
variable {n : Nat} {b : Nat → Int} {q : Rs} {one : Rs → Rs} {d : Nat}
/-- no more written than read -/
def Lok (n : Nat) (q : Rs) : Prop := q.2.length ≤ plc q.1 ∧ plc q.1 ≤ n
theorem Lok_pg {k : Int} {d : Nat} {q' : Rs} (h : Pgr n k d q q') (hk : 0 ≤ k) (hl : Lok n q) (hi : isI q'.1) : Lok n q' ∧ q'.2.length + k.toNat ≤ plc q'.1 := by
  have := (h hi).2 hl.2
  have h1 := hl.1
  exact ⟨⟨by omega, this.2.2⟩, by omega⟩
theorem rd_V (ho : OKt n b) (hl : Lok n q) (hi : isI (ruV n b q).1) : ∃ v, (ruV n b q).2 = q.2 ++ [v] ∧ -5 ≤ v := by
  have hn := ho.1
  have key : ∀ x, -5 ≤ x → zK n b 4 q.1 ≠ -1 → isI q.1 → ∃ v, (ruA n b (ruW x q)).2 = q.2 ++ [v] ∧ -5 ≤ v := fun x hx hk hq => by
    have := (Pg_A ho (q := q) hk (isI_N.mpr hq)).2 hl.2
    have h1 := hl.1
    have t1 : plc q.1 + 1 ≤ plc (ruA n b q).1 := this.2.1
    have t2 : plc (ruA n b q).1 ≤ n := this.2.2
    refine ⟨x, ?_, hx⟩
    show (ruW x q).2 = _
    rw [ruW_lt (by omega)]
  have hI : isI q.1 := (Pg_V ho hi).1
  unfold ruV at hi ⊢
  by_cases c : zK n b 4 q.1 = -2
  · rw [if_pos c]
    refine key _ ?_ (by omega) hI
    obtain ⟨σ, l⟩ := q
    cases σ with
    | inr e => cases c
    | inl y =>
      have := tVl_nn (p := y.1) ho ((ckd_m2 ho).mp c)
      show -5 ≤ tVl n b y.1
      omega
  · rw [if_neg c] at hi ⊢
    have kw : ∀ w, zW n b 4 (txs w) q.1 = true → zK n b 4 q.1 ≠ -1 := fun w h => by rw [zW_k ho h]; decide
    split
    · rename_i h; exact key _ (by decide) (kw _ h) hI
    · split
      · rename_i h; exact key _ (by decide) (kw _ h) hI
      · split
        · rename_i h; exact key _ (by decide) (kw _ h) hI
        · split
          · rename_i h; exact key _ (by decide) (kw _ h) hI
          · split
            · rename_i h; exact key _ (by decide) (kw _ h) hI
            · rename_i h4 h5 h6 h7 h8
              rw [if_neg h4, if_neg h5, if_neg h6, if_neg h7, if_neg h8] at hi
              exact absurd (isI_N.mp hi) isI_F
theorem rd_W {x : Int} {k : Nat} (hl : q.2.length + k ≤ plc q.1) (hk : 1 ≤ k) (hp : plc q.1 ≤ 800) : (ruW x q).2 = q.2 ++ [x] := by rw [ruW_lt (by omega)]
theorem rd_Sl (ho : OKt n b) : ∀ f (q : Rs) (l0 seg : List Int), q.2 = l0 ++ seg → SegN 2 seg → Lok n q → isI (ruSl n b f q).1 → ∃ seg', (ruSl n b f q).2 = l0 ++ seg' ∧ SegN 2 seg'
  | 0, q, l0, seg, e, hs, _, _ => ⟨seg, e, hs⟩
  | f + 1, q, l0, seg, e, hs, hl, hi => by
    have hn := ho.1
    have un : ruSl n b (f + 1) q = if zK n b 4 q.1 = 43 ∨ zK n b 4 q.1 = 45 then ruSl n b f (ruW (-(zK n b 4 q.1)) (ruV n b (ruA n b q))) else q := rfl
    rw [un] at hi ⊢
    by_cases c : zK n b 4 q.1 = 43 ∨ zK n b 4 q.1 = 45
    · rw [if_pos c] at hi ⊢
      have pa : Pgr n 1 1 q (ruA n b q) := Pg_A ho (by omega)
      have pv : Pgr n 0 1 (ruA n b q) (ruV n b (ruA n b q)) := Pg_V ho
      have pw : Pgr n 1 2 q (ruV n b (ruA n b q)) := Pg_tr pa pv (by omega) (by omega)
      have i3 : isI (ruV n b (ruA n b q)).1 := (Pg_Sl ho f _ hi).1
      have la := Lok_pg pa (by decide) hl ((pv i3).1)
      have lw := Lok_pg pw (by decide) hl i3
      obtain ⟨v, ev, hv⟩ := rd_V ho la.1 i3
      have eW := rd_W (x := -(zK n b 4 q.1)) (k := 1) lw.2 (by omega) (by have := lw.1.2; omega)
      have pz : Pgr n 0 2 q (ruW (-(zK n b 4 q.1)) (ruV n b (ruA n b q))) := Pg_tr pw Pg_W (by omega) (by omega)
      have lz := Lok_pg pz (by decide) hl i3
      refine rd_Sl ho f _ l0 (seg ++ [v] ++ [-(zK n b 4 q.1)]) ?_ (seg_op hs (seg_val hv) c (by omega) (by omega)) lz.1 hi
      rw [eW, ev]
      show q.2 ++ [v] ++ _ = _
      rw [e]; simp only [List.append_assoc]
    · rw [if_neg c]; exact ⟨seg, e, hs⟩
theorem rd_S (ho : OKt n b) (hl : Lok n q) (hi : isI (ruS n b q).1) : ∃ seg, (ruS n b q).2 = q.2 ++ seg ∧ SegN 2 seg := by
  have i2 := (Pg_Sl ho 800 _ hi).1
  obtain ⟨v, ev, hv⟩ := rd_V ho hl i2
  exact rd_Sl ho 800 _ q.2 [v] ev (segN_w (seg_val hv) (by omega)) (Lok_pg (Pg_V ho) (by decide) hl i2).1 hi
theorem rd_C (ho : OKt n b) (hl : Lok n q) (hi : isI (ruC n b q).1) : ∃ seg, (ruC n b q).2 = q.2 ++ seg ∧ SegB 3 seg := by
  have hn := ho.1
  have i4 : isI (ruS n b (ruA n b (ruC1 n b (ruS n b q)))).1 := hi
  have i3 : isI (ruA n b (ruC1 n b (ruS n b q))).1 := (Pg_S ho i4).1
  have i2 : isI (ruC1 n b (ruS n b q)).1 := isI_N.mp i3
  have c : zK n b 4 (ruS n b q).1 = 60 ∨ zK n b 4 (ruS n b q).1 = 61 ∨ zK n b 4 (ruS n b q).1 = 62 := by
    by_cases c : zK n b 4 (ruS n b q).1 = 60 ∨ zK n b 4 (ruS n b q).1 = 61 ∨ zK n b 4 (ruS n b q).1 = 62
    · exact c
    · unfold ruC1 at i2
      rw [if_neg c] at i2
      exact absurd i2 isI_F
  have e1 : ruC1 n b (ruS n b q) = ruS n b q := by unfold ruC1; rw [if_pos c]
  rw [e1] at i3 i4 i2
  obtain ⟨s1, g1, h1⟩ := rd_S ho hl i2
  have ps : Pgr n 0 1 q (ruS n b q) := Pg_S ho
  have pa : Pgr n 1 1 (ruS n b q) (ruA n b (ruS n b q)) := Pg_A ho (by omega)
  have p2 : Pgr n 1 2 q (ruA n b (ruS n b q)) := Pg_tr ps pa (by omega) (by omega)
  have p3 : Pgr n 1 3 q (ruS n b (ruA n b (ruS n b q))) := Pg_tr p2 (Pg_S ho) (by omega) (by omega)
  obtain ⟨s2, g2, h2⟩ := rd_S ho (Lok_pg p2 (by decide) hl i3).1 i4
  have l3 := Lok_pg p3 (by decide) hl i4
  have eW := rd_W (x := -(zK n b 4 (ruS n b q).1)) (k := 1) l3.2 (by omega) (by have := l3.1.2; omega)
  refine ⟨s1 ++ s2 ++ [-(zK n b 4 (ruS n b q).1)], ?_, seg_cmp h1 h2 c (by omega) (by omega)⟩
  unfold ruC
  rw [e1, eW, g2]
  show (ruS n b q).2 ++ s2 ++ _ = _
  rw [g1]; simp only [List.append_assoc]
/-- what one operand reads works -/
def HRd (n : Nat) (d : Nat) (one : Rs → Rs) : Prop := ∀ q, Lok n q → isI (one q).1 → ∃ seg, (one q).2 = q.2 ++ seg ∧ SegB d seg
theorem rd_Bl (ho : OKt n b) (h1 : ∀ q, Pgr n 0 1 q (one q)) (hR : HRd n d one) : ∀ f (q : Rs) (l0 seg : List Int), q.2 = l0 ++ seg → SegB (d + 1) seg → Lok n q → isI (ruBl n b one f q).1 → ∃ seg', (ruBl n b one f q).2 = l0 ++ seg' ∧ SegB (d + 1) seg'
  | 0, q, l0, seg, e, hs, _, _ => ⟨seg, e, hs⟩
  | f + 1, q, l0, seg, e, hs, hl, hi => by
    have hn := ho.1
    have un : ruBl n b one (f + 1) q = if zK n b 4 q.1 = 38 then ruBl n b one f (ruW (-38) (one (ruA n b q))) else q := rfl
    rw [un] at hi ⊢
    by_cases c : zK n b 4 q.1 = 38
    · rw [if_pos c] at hi ⊢
      have pa : Pgr n 1 1 q (ruA n b q) := Pg_A ho (by omega)
      have pv := h1 (ruA n b q)
      have pw : Pgr n 1 2 q (one (ruA n b q)) := Pg_tr pa pv (by omega) (by omega)
      have i3 : isI (one (ruA n b q)).1 := (Pg_Bl ho h1 f _ hi).1
      have la := Lok_pg pa (by decide) hl ((pv i3).1)
      have lw := Lok_pg pw (by decide) hl i3
      obtain ⟨s2, ev, hv⟩ := hR _ la.1 i3
      have eW := rd_W (x := -38) (k := 1) lw.2 (by omega) (by have := lw.1.2; omega)
      have pz : Pgr n 0 2 q (ruW (-38) (one (ruA n b q))) := Pg_tr pw Pg_W (by omega) (by omega)
      have lz := Lok_pg pz (by decide) hl i3
      refine rd_Bl ho h1 hR f _ l0 (seg ++ s2 ++ [-38]) ?_ (seg_and hs hv (Or.inl rfl) (by omega) (by omega)) lz.1 hi
      rw [eW, ev]
      show q.2 ++ s2 ++ _ = _
      rw [e]; simp only [List.append_assoc]
    · rw [if_neg c]; exact ⟨seg, e, hs⟩
theorem rd_B (ho : OKt n b) (h1 : ∀ q, Pgr n 0 1 q (one q)) (hR : HRd n d one) : HRd n (d + 1) (ruB n b one) := fun q hl hi => by
  have i2 := (Pg_Bl ho h1 800 _ hi).1
  obtain ⟨s, ev, hv⟩ := hR q hl i2
  exact rd_Bl ho h1 hR 800 _ q.2 s ev (segB_w hv (by omega)) (Lok_pg (h1 q) (by decide) hl i2).1 hi
theorem rd_El (ho : OKt n b) (h1 : ∀ q, Pgr n 0 1 q (one q)) (hR : HRd n d one) : ∀ f (q : Rs) (l0 seg : List Int), q.2 = l0 ++ seg → SegB (d + 2) seg → Lok n q → isI (ruEl n b one f q).1 → ∃ seg', (ruEl n b one f q).2 = l0 ++ seg' ∧ SegB (d + 2) seg'
  | 0, q, l0, seg, e, hs, _, _ => ⟨seg, e, hs⟩
  | f + 1, q, l0, seg, e, hs, hl, hi => by
    have hn := ho.1
    have un : ruEl n b one (f + 1) q = if zK n b 4 q.1 = 124 then ruEl n b one f (ruW (-124) (ruB n b one (ruA n b q))) else q := rfl
    rw [un] at hi ⊢
    by_cases c : zK n b 4 q.1 = 124
    · rw [if_pos c] at hi ⊢
      have pa : Pgr n 1 1 q (ruA n b q) := Pg_A ho (by omega)
      have pv : Pgr n 0 1 (ruA n b q) (ruB n b one (ruA n b q)) := Pg_B ho h1
      have pw : Pgr n 1 2 q (ruB n b one (ruA n b q)) := Pg_tr pa pv (by omega) (by omega)
      have i3 : isI (ruB n b one (ruA n b q)).1 := (Pg_El ho h1 f _ hi).1
      have la := Lok_pg pa (by decide) hl ((pv i3).1)
      have lw := Lok_pg pw (by decide) hl i3
      obtain ⟨s2, ev, hv⟩ := rd_B ho h1 hR _ la.1 i3
      have eW := rd_W (x := -124) (k := 1) lw.2 (by omega) (by have := lw.1.2; omega)
      have pz : Pgr n 0 2 q (ruW (-124) (ruB n b one (ruA n b q))) := Pg_tr pw Pg_W (by omega) (by omega)
      have lz := Lok_pg pz (by decide) hl i3
      refine rd_El ho h1 hR f _ l0 (seg ++ s2 ++ [-124]) ?_ (seg_and hs hv (Or.inr rfl) (by omega) (by omega)) lz.1 hi
      rw [eW, ev]
      show q.2 ++ s2 ++ _ = _
      rw [e]; simp only [List.append_assoc]
    · rw [if_neg c]; exact ⟨seg, e, hs⟩
theorem rd_E (ho : OKt n b) (h1 : ∀ q, Pgr n 0 1 q (one q)) (hR : HRd n d one) : HRd n (d + 2) (ruE n b one) := fun q hl hi => by
  have i2 := (Pg_El ho h1 800 _ hi).1
  obtain ⟨s, ev, hv⟩ := rd_B ho h1 hR q hl i2
  exact rd_El ho h1 hR 800 _ q.2 s ev (segB_w hv (by omega)) (Lok_pg (Pg_B ho h1) (by decide) hl i2).1 hi
theorem rd_O (ho : OKt n b) : ∀ g, HRd n (3 + 2 * g) (ruO n b g)
  | 0, q, hl, hi => by
    have un : ruO n b 0 q = if zK n b 4 q.1 = 33 ∨ zK n b 4 q.1 = 40 then ruF n b 4 q else ruC n b q := rfl
    rw [un] at hi ⊢
    by_cases c : zK n b 4 q.1 = 33 ∨ zK n b 4 q.1 = 40
    · rw [if_pos c] at hi; exact absurd hi isI_F
    · rw [if_neg c] at hi ⊢; exact rd_C ho hl hi
  | g + 1, q, hl, hi => by
    have hn := ho.1
    have ih := rd_O ho g
    have un : ruO n b (g + 1) q = if zK n b 4 q.1 = 33 then ruW (-33) (ruO n b g (ruA n b q)) else if zK n b 4 q.1 = 40 then ruT n b (ruE n b (ruO n b g) (ruA n b q)) else ruC n b q := rfl
    rw [un] at hi ⊢
    by_cases c : zK n b 4 q.1 = 33
    · rw [if_pos c] at hi ⊢
      have pa : Pgr n 1 1 q (ruA n b q) := Pg_A ho (by omega)
      have pv := Pg_O ho g (ruA n b q)
      have pw : Pgr n 1 2 q (ruO n b g (ruA n b q)) := Pg_tr pa pv (by omega) (by omega)
      have i3 : isI (ruO n b g (ruA n b q)).1 := hi
      have la := Lok_pg pa (by decide) hl ((pv i3).1)
      have lw := Lok_pg pw (by decide) hl i3
      obtain ⟨s2, ev, hv⟩ := ih _ la.1 i3
      have eW := rd_W (x := -33) (k := 1) lw.2 (by omega) (by have := lw.1.2; omega)
      refine ⟨s2 ++ [-33], ?_, seg_not (segB_w hv (by omega))⟩
      rw [eW, ev]
      show q.2 ++ s2 ++ _ = _
      simp only [List.append_assoc]
    · rw [if_neg c] at hi ⊢
      by_cases c2 : zK n b 4 q.1 = 40
      · rw [if_pos c2] at hi ⊢
        have pa : Pgr n 1 1 q (ruA n b q) := Pg_A ho (by omega)
        have i3 := (Pg_T ho hi).1
        have la := Lok_pg pa (by decide) hl ((Pg_E ho (Pg_O ho g) i3).1)
        obtain ⟨s2, ev, hv⟩ := rd_E ho (Pg_O ho g) ih _ la.1 i3
        exact ⟨s2, ev, segB_w hv (by omega)⟩
      · rw [if_neg c2] at hi ⊢
        obtain ⟨s, e, h⟩ := rd_C ho hl hi
        exact ⟨s, e, segB_w h (by omega)⟩
def OKr (rl : List Int) : Prop := rl.length ≤ 800 ∧ (rl = [] ∨ SegB 21 rl)
theorem rl_ok (ho : OKt n b) {y : Nat × Nat} (h : rlT n b = .inl y) : OKr (rlR n b).2 := by
  have hi : isI (rlR n b).1 := (zEnd_i (show isI (rlT n b) by rw [h]; trivial)).2.1
  have hl : Lok n ((.inl (0, tks n b 4 0 0), []) : Rs) := ⟨Nat.zero_le _, Nat.zero_le _⟩
  obtain ⟨s, e, hs⟩ := rd_E ho (Pg_O ho 8) (rd_O ho 8) _ hl hi
  have l := Lok_pg (Pg_E ho (Pg_O ho 8)) (by decide) hl hi
  have e : (rlR n b).2 = [] ++ s := e
  have l1 : (rlR n b).2.length ≤ plc (rlR n b).1 := l.1.1
  have l2 : plc (rlR n b).1 ≤ n := l.1.2
  have hn := ho.1
  refine ⟨by omega, Or.inr ?_⟩
  rw [e]; exact hs
end RDX
