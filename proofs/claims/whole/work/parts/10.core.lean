/-! the abstract memory: values by cell and place, lengths, how many cells, how many slots -/
abbrev Mm : Type := (Nat → Nat → Int) × (Nat → Nat) × Nat × Nat
/-- a value with its tag: 0 int, 1 long, 2 + c an object of class c, 13 int row, 14 long row, 15 boolean row, 16 row of pieces, 17 the script, 18, 19 constant rows of longs, 20 a text, 22 a text's bytes, 21 (of a cell alone) a boolean -/
abbrev AV : Type := Nat × Int
def mg (M : Mm) (c k : Nat) : Int := M.1 c k
def ml (M : Mm) (c : Nat) : Nat := M.2.1 c
def mN (M : Mm) : Nat := M.2.2.1
def mZ (M : Mm) : Nat := M.2.2.2
def mp (M : Mm) (c k : Nat) (v : Int) : Mm := (fun c' k' => if c' = c ∧ k' = k then v else M.1 c' k', M.2)
def mw (M : Mm) (len : Nat) : Mm := (fun c' k' => if c' = M.2.2.1 then 0 else M.1 c' k', fun c' => if c' = M.2.2.1 then len else M.2.1 c', M.2.2.1 + 1, M.2.2.2 + len)
def cI (r : Int) : Nat := (r - 1).toNat
def ok32 (x : Int) : Prop := -2147483648 ≤ x ∧ x < 2147483648
def ok64 (x : Int) : Prop := -9223372036854775808 ≤ x ∧ x < 9223372036854775808
/-- the same, but nothing unfolds it -/
noncomputable def hid {α : Type} (a : α) : α := Classical.choose (⟨a, rfl⟩ : ∃ x : α, x = a)
theorem hid_eq {α : Type} (a : α) : hid a = a := Classical.choose_spec (⟨a, rfl⟩ : ∃ x : α, x = a)
def w32c (x : Int) : Int := (x + 2147483648) % 4294967296 - 2147483648
def w64c (x : Int) : Int := (x + 9223372036854775808) % 18446744073709551616 - 9223372036854775808
noncomputable def w32 : Int → Int := hid w32c
noncomputable def w64 : Int → Int := hid w64c
theorem w32_eq : w32 = w32c := hid_eq w32c
theorem w64_eq : w64 = w64c := hid_eq w64c
theorem w32_d (x : Int) : w32 x = (x + 2147483648) % 4294967296 - 2147483648 := by rw [w32_eq]; rfl
theorem w64_d (x : Int) : w64 x = (x + 9223372036854775808) % 18446744073709551616 - 9223372036854775808 := by rw [w64_eq]; rfl
theorem w32_ok (x : Int) : ok32 (w32 x) := by rw [w32_d]; unfold ok32; omega
theorem w64_ok (x : Int) : ok64 (w64 x) := by rw [w64_d]; unfold ok64; omega
theorem w32_id {x : Int} (h : ok32 x) : w32 x = x := by unfold ok32 at h; rw [w32_d]; omega
theorem w64_id {x : Int} (h : ok64 x) : w64 x = x := by unfold ok64 at h; rw [w64_d]; omega
theorem i32_t (x : Int) : (Int32.ofInt x).toInt = w32 x := by
  rw [Int32.toInt_ofInt, Int.bmod_def, w32_d]
  simp only [Int32.size]; split <;> omega
theorem i64_t (x : Int) : (Int64.ofInt x).toInt = w64 x := by
  rw [Int64.toInt_ofInt, Int.bmod_def, w64_d]
  simp only [Int64.size]; split <;> omega
theorem i32_w (x : Int) : Int32.ofInt (w32 x) = Int32.ofInt x := by
  apply Int32.toInt_inj.mp; rw [i32_t, i32_t, w32_id (w32_ok x)]
theorem i64_w (x : Int) : Int64.ofInt (w64 x) = Int64.ofInt x := by
  apply Int64.toInt_inj.mp; rw [i64_t, i64_t, w64_id (w64_ok x)]
theorem i32_c {x : Int} (h : ok32 x) : (Int32.ofInt x).toInt = x := by rw [i32_t, w32_id h]
theorem i64_c {x : Int} (h : ok64 x) : (Int64.ofInt x).toInt = x := by rw [i64_t, w64_id h]
theorem i32_of (x : Int32) : Int32.ofInt x.toInt = x := Int32.ofInt_toInt x
theorem i64_of (x : Int64) : Int64.ofInt x.toInt = x := Int64.ofInt_toInt x
theorem i32_ok (x : Int32) : ok32 x.toInt := by
  have h1 := x.le_toInt; have h2 := x.toInt_lt; unfold ok32; omega
theorem i64_ok (x : Int64) : ok64 x.toInt := by
  have h1 := x.le_toInt; have h2 := x.toInt_lt; unfold ok64; omega
theorem i32_eq {a b : Int} (ha : ok32 a) (hb : ok32 b) : Int32.ofInt a = Int32.ofInt b ↔ a = b := by
  constructor
  · intro h; rw [← i32_c ha, ← i32_c hb, h]
  · intro h; rw [h]
theorem i32_lt {a b : Int} (ha : ok32 a) (hb : ok32 b) : Int32.ofInt a < Int32.ofInt b ↔ a < b := by
  rw [Int32.lt_iff_toInt_lt, i32_c ha, i32_c hb]
theorem i32_le {a b : Int} (ha : ok32 a) (hb : ok32 b) : Int32.ofInt a ≤ Int32.ofInt b ↔ a ≤ b := by
  rw [Int32.le_iff_toInt_le, i32_c ha, i32_c hb]
theorem i64_eq {a b : Int} (ha : ok64 a) (hb : ok64 b) : Int64.ofInt a = Int64.ofInt b ↔ a = b := by
  constructor
  · intro h; rw [← i64_c ha, ← i64_c hb, h]
  · intro h; rw [h]
theorem i64_lt {a b : Int} (ha : ok64 a) (hb : ok64 b) : Int64.ofInt a < Int64.ofInt b ↔ a < b := by
  rw [Int64.lt_iff_toInt_lt, i64_c ha, i64_c hb]
theorem i64_le {a b : Int} (ha : ok64 a) (hb : ok64 b) : Int64.ofInt a ≤ Int64.ofInt b ↔ a ≤ b := by
  rw [Int64.le_iff_toInt_le, i64_c ha, i64_c hb]
theorem ok32_0 : ok32 0 := by unfold ok32; omega
theorem i32_0 : Int32.ofInt 0 = 0 := rfl
/-- the place of a cell in a row: in range, and which -/
theorem i32_in {a : Int} {n : Nat} (ha : ok32 a) (h0 : 0 ≤ a) (hn : a < n) : vp_in (Int32.ofInt a) n := by
  rw [vp_in_iff, i32_c ha]; exact ⟨h0, hn⟩
theorem i32_cl {a : Int} (ha : ok32 a) : (Int32.ofInt a).toNatClampNeg = a.toNat := by
  show (Int32.ofInt a).toInt.toNat = a.toNat
  rw [i32_c ha]
/-! bits, shifts, quotients: as the machine has them -/
noncomputable def bAnd (a b : Int) : Int := hid (fun a b : Int => (Int32.ofInt a &&& Int32.ofInt b).toInt) a b
theorem bAnd_d (a b : Int) : bAnd a b = (Int32.ofInt a &&& Int32.ofInt b).toInt := by unfold bAnd; rw [hid_eq]
noncomputable def bOr (a b : Int) : Int := hid (fun a b : Int => (Int32.ofInt a ||| Int32.ofInt b).toInt) a b
theorem bOr_d (a b : Int) : bOr a b = (Int32.ofInt a ||| Int32.ofInt b).toInt := by unfold bOr; rw [hid_eq]
noncomputable def bXor (a b : Int) : Int := hid (fun a b : Int => (Int32.ofInt a ^^^ Int32.ofInt b).toInt) a b
theorem bXor_d (a b : Int) : bXor a b = (Int32.ofInt a ^^^ Int32.ofInt b).toInt := by unfold bXor; rw [hid_eq]
noncomputable def bShl (a b : Int) : Int := hid (fun a b : Int => (Int32.ofInt a <<< (Int32.ofInt b &&& 31)).toInt) a b
theorem bShl_d (a b : Int) : bShl a b = (Int32.ofInt a <<< (Int32.ofInt b &&& 31)).toInt := by unfold bShl; rw [hid_eq]
noncomputable def bShr (a b : Int) : Int := hid (fun a b : Int => (Int32.ofInt a >>> (Int32.ofInt b &&& 31)).toInt) a b
theorem bShr_d (a b : Int) : bShr a b = (Int32.ofInt a >>> (Int32.ofInt b &&& 31)).toInt := by unfold bShr; rw [hid_eq]
noncomputable def bUshr (a b : Int) : Int := hid (fun a b : Int => ((Int32.ofInt a).toUInt32 >>> ((Int32.ofInt b).toUInt32 &&& Int32.toUInt32 31)).toInt32.toInt) a b
theorem bUshr_d (a b : Int) : bUshr a b = ((Int32.ofInt a).toUInt32 >>> ((Int32.ofInt b).toUInt32 &&& Int32.toUInt32 31)).toInt32.toInt := by unfold bUshr; rw [hid_eq]
noncomputable def lOr (a b : Int) : Int := hid (fun a b : Int => (Int64.ofInt a ||| Int64.ofInt b).toInt) a b
theorem lOr_d (a b : Int) : lOr a b = (Int64.ofInt a ||| Int64.ofInt b).toInt := by unfold lOr; rw [hid_eq]
noncomputable def lShl (a b : Int) : Int := hid (fun a b : Int => (Int64.ofInt a <<< ((Int32.ofInt b).toInt64 &&& 63)).toInt) a b
theorem lShl_d (a b : Int) : lShl a b = (Int64.ofInt a <<< ((Int32.ofInt b).toInt64 &&& 63)).toInt := by unfold lShl; rw [hid_eq]
noncomputable def iDiv (a b : Int) : Int := hid (fun a b : Int => (Int32.ofInt a / Int32.ofInt b).toInt) a b
theorem iDiv_d (a b : Int) : iDiv a b = (Int32.ofInt a / Int32.ofInt b).toInt := by unfold iDiv; rw [hid_eq]
noncomputable def iRem (a b : Int) : Int := hid (fun a b : Int => (Int32.ofInt a - Int32.ofInt a / Int32.ofInt b * Int32.ofInt b).toInt) a b
theorem iRem_d (a b : Int) : iRem a b = (Int32.ofInt a - Int32.ofInt a / Int32.ofInt b * Int32.ofInt b).toInt := by unfold iRem; rw [hid_eq]
noncomputable def lDiv (a b : Int) : Int := hid (fun a b : Int => (Int64.ofInt a / Int64.ofInt b).toInt) a b
theorem lDiv_d (a b : Int) : lDiv a b = (Int64.ofInt a / Int64.ofInt b).toInt := by unfold lDiv; rw [hid_eq]
noncomputable def lRem (a b : Int) : Int := hid (fun a b : Int => (Int64.ofInt a - Int64.ofInt a / Int64.ofInt b * Int64.ofInt b).toInt) a b
theorem lRem_d (a b : Int) : lRem a b = (Int64.ofInt a - Int64.ofInt a / Int64.ofInt b * Int64.ofInt b).toInt := by unfold lRem; rw [hid_eq]
/-! the classes, their slots' tags -/
abbrev cls : List vw_C := [(R_Cover, F_Cover, 4), (R_Library, F_Library, 3), (R_Loans, F_Loans, 6), (R_Piece, F_Piece, 9), (R_Planner, F_Planner, 9), (R_Players, F_Players, 6), (R_Rule, F_Rule, 7), (R_Seater, F_Seater, 7), (R_Tape, F_Tape, 10), (R_Band, F_Band, 8), (R_Model, F_Model, 48)]
def fl (t : Nat) : List Nat := match t with
  | 2 => [13, 13, 13, 0]
  | 3 => [16, 0, 0]
  | 4 => [13, 13, 13, 13, 13, 0]
  | 5 => [13, 13, 13, 0, 0, 0, 0, 0, 0]
  | 6 => [13, 0, 0, 13, 13, 13, 13, 0, 14]
  | 7 => [13, 13, 13, 13, 0, 0]
  | 8 => [13, 13, 13, 13, 0, 0, 0]
  | 9 => [14, 14, 14, 14, 13, 13, 0]
  | 10 => [13, 0, 0, 0, 0, 0, 0, 0, 0, 0]
  | 11 => [7, 3, 10, 8, 4, 2, 9, 6]
  | 12 => [0, 0, 13, 13, 13, 15, 13, 0, 14, 13, 13, 13, 13, 13, 13, 13, 13, 13, 0, 0, 13, 13, 15, 15, 0, 13, 13, 13, 13, 0, 0, 0, 0, 0, 1, 0, 0, 0, 0, 13, 13, 0, 13, 13, 0, 13, 13, 0]
  | _ => []
/-- how many slots an object of a tag has -/
def nf (t : Nat) : Nat := (fl t).length
/-- the tag of place k of a cell of kind t -/
def ft (t k : Nat) : Nat := if t = 13 then 0 else if t = 14 then 1 else if t = 15 then 21 else if t = 16 then 5 else (fl t).getD k 0
/-- the claim's constants: class numbers and slots; array classes of int, long, boolean, pieces; special addresses; the script -/
abbrev GG : Type := va_G × (ClassId × ClassId × ClassId × ClassId) × (Nat → Nat)
/-- the script: its length, its ints -/
abbrev XX : Type := Nat × (Nat → Int)
def cv (G : GG) (ad : Nat → Nat) (q : AV) : Value :=
  if q.1 = 0 then .int (Int32.ofInt q.2) else if q.1 = 1 then .long (Int64.ofInt q.2) else if q.1 ≤ 16 then va_rf (if q.2 = 0 then none else some (ad (cI q.2))) else if q.1 = 20 then .ref (G.2.2 (100 + q.2.toNat)) else if q.1 = 22 then .ref (G.2.2 (200 + q.2.toNat)) else if q.1 = 23 then va_rf (if G.2.2 23 = 0 then none else some (G.2.2 24)) else .ref (G.2.2 q.1)
def okV (kd : Nat → Nat) (n : Nat) (q : AV) : Prop := (q.1 = 0 → ok32 q.2) ∧ (q.1 = 1 → ok64 q.2) ∧ (2 ≤ q.1 → q.1 ≤ 16 → q.2 = 0 ∨ ∃ c : Nat, q.2 = (c : Int) + 1 ∧ c < n ∧ kd c = q.1) ∧ (q.1 = 21 → q.2 = 0 ∨ q.2 = 1) ∧ (q.1 = 20 ∨ q.1 = 22 → 0 ≤ q.2 ∧ q.2 < 9)
def WT (kd : Nat → Nat) (M : Mm) : Prop := ∀ c, c < mN M → 2 ≤ kd c ∧ kd c ≤ 16 ∧ ml M c < 2147483648 ∧ ∀ k, okV kd (mN M) (ft (kd c) k, mg M c k)
def cE (G : GG) (ad kd : Nat → Nat) (M : Mm) (c : Nat) : va_E :=
  if kd c ≤ 12 then .inr (kd c - 2, (List.range (nf (kd c))).map fun k => cv G ad (ft (kd c) k, mg M c k)) else if kd c = 13 then .inl (G.2.1.1, ml M c, .inl fun k => Int32.ofInt (mg M c k)) else if kd c = 14 then .inl (G.2.1.2.1, ml M c, .inr (.inl fun k => Int64.ofInt (mg M c k))) else if kd c = 15 then .inl (G.2.1.2.2.1, ml M c, .inl fun k => Int32.ofInt (mg M c k)) else .inl (G.2.1.2.2.2, ml M c, .inr (.inr (.inr (.inr fun k => if mg M c k = 0 then none else some (ad (cI (mg M c k)))))))
def wl (G : GG) (ad kd : Nat → Nat) (M : Mm) : va_W := (List.range (mN M)).map fun c => (ad c, cE G ad kd M c)
abbrev tyG (G : GG) : List (ClassId × FieldType) := [(G.2.1.1, .int), (G.2.1.2.1, .long), (G.2.1.2.2.1, .boolean), (G.2.1.2.2.2, .object "TownBand$Piece")]
def tblG : List Cond := lw_tbl.filter goodWord
def isNest : Cond → Bool
  | .fieldLinkNest .. => true
  | .methodLinkNest .. => true
  | _ => false
def tblN : List Cond := tables_1.filter isNest
theorem tG {i : Nat} {w : Cond} (h : tables_1[i]? = some w) (hg : goodWord w = true) : w ∈ tblG := List.mem_filter.mpr ⟨List.mem_append_right _ (List.mem_of_getElem? h), hg⟩
theorem tS {i : Nat} {q : MethodName × Nat} (h : lw_privs[i]? = some q) : Cond.selects q.1.cls q.1 q.1 ∈ tblG := List.mem_filter.mpr ⟨List.mem_append_left _ (List.mem_map.mpr ⟨q, List.mem_of_getElem? h, rfl⟩), rfl⟩
theorem tN {i : Nat} {w : Cond} (h : tables_1[i]? = some w) (hg : isNest w = true) : w ∈ tblN := List.mem_filter.mpr ⟨List.mem_of_getElem? h, hg⟩
theorem tblG_good (w : Cond) (h : w ∈ tblG) : goodWord w = true := (List.mem_filter.mp h).2
/-! constant rows of longs, texts -/
def dg1 : List Int := [38443359375, 2562890625, 170859375, 11390625, 759375, 50625, 3375, 225, 15, 1]
def dg2 : List Int := [1000000000, 100000000, 10000000, 1000000, 100000, 10000, 1000, 100, 10, 1]
/-- the texts: piece, must, may, or, age, days, past, out, day -/
def txL : List Nat := [5, 4, 3, 2, 3, 4, 4, 3, 3]
def txB : List (List Int32) := [[112, 105, 101, 99, 101], [109, 117, 115, 116], [109, 97, 121], [111, 114], [97, 103, 101], [100, 97, 121, 115], [112, 97, 115, 116], [111, 117, 116], [100, 97, 121]]
def txK : List (String × Nat × String) := [("TownBand$Library", 31, "piece"), ("TownBand$Library", 95, "must"), ("TownBand$Library", 97, "may"), ("TownBand$Library", 99, "or"), ("TownBand$Rule", 72, "age"), ("TownBand$Rule", 78, "days"), ("TownBand$Rule", 80, "past"), ("TownBand$Rule", 82, "out"), ("TownBand$Rule", 84, "day")]
/-- what stands outside the world: the script, constants, texts, links among nest mates -/
def Sp (X : XX) (G : GG) (A : Nat → Prop) (U : State) (H : Heap) : Prop :=
  (va_X (G.2.2 17) X.1 (fun j => Int32.ofInt (X.2 j)) U H ∧ G.2.2 17 < H.size ∧ ¬ A (G.2.2 17)) ∧
  (va_Z "TownBand$Seater" "DIGIT" "[J" (.ref (G.2.2 18)) A U H ∧ va_T .long (G.2.2 18) 10 (fun j => .long (Int64.ofInt (dg1.getD j 0))) A U H) ∧
  (va_Z "TownBand$Planner" "DIGIT" "[J" (.ref (G.2.2 19)) A U H ∧ va_T .long (G.2.2 19) 10 (fun j => .long (Int64.ofInt (dg2.getD j 0))) A U H) ∧
  (∀ w ∈ tblN, va_Nw w U) ∧
  (vk_S 9 txL txB (fun i => G.2.2 (100 + i)) (fun i => G.2.2 (200 + i)) A U H ∧ ∀ (i : Nat) (q : String × Nat × String), txK[i]? = some q → vk_R q.1 q.2.1 q.2.2 (G.2.2 (100 + i)) U) ∧
  (va_Z "java/lang/String" "COMPACT_STRINGS" "Z" (.int 1) A U H ∧ va_Z "jdk/internal/util/Preconditions" "SIOOBE_FORMATTER" "Ljava/util/function/BiFunction;" (va_rf (if G.2.2 23 = 0 then none else some (G.2.2 24))) A U H) ∧
  va_AO "TownBand$Piece" U
abbrev MI : Type := MethodName × ByteArray × Nat × Option FieldType × String
/-- what stands throughout a method -/
def Cx (X : XX) (mi : MI) (G : GG) (d : Nat) (R : Room) (p : Program) (s : State) (m : MethodId) (args : Array Value) (meth : Method) (c : Code) (A : Nat → Prop) : Prop :=
  p.tables.exec = Jvm.exec ∧ c.code = mi.2.1 ∧ c.maxLocals = mi.2.2.1 ∧ s.vm.findClass mi.2.2.2.2 = some m.cls ∧ (∀ w ∈ tblG, w.before args s = true) ∧ meth.name = mi.1.name ∧ (∀ q, s.heap.size ≤ q → A q) ∧ Sp X G A s s.heap ∧ va_K G.1 cls (tyG G) s ∧ d ≤ R.frames ∧ 64 * d ≤ R.locals
def Sx (G : GG) (ad kd : Nat → Nat) (M : Mm) (A : Nat → Prop) (s : State) (H : Heap) (locs : List Loc) : Prop := WT kd M ∧ va_P G.1 cls (wl G ad kd M) H ∧ va_D A (wl G ad kd M) ∧ va_S A s.heap H locs
/-- the return's instruction, by what is returned -/
def rD (mi : MI) (pc : Nat) (r : Option AV) : Prop := match r with
  | none => decode mi.2.1 pc = .ok (.return_, 1)
  | some q => if q.1 = 0 then decode mi.2.1 pc = .ok (.ireturn, 1) else if q.1 = 1 then decode mi.2.1 pc = .ok (.lreturn, 1) else decode mi.2.1 pc = .ok (.areturn, 1)
/-- what is returned fits the method's kind -/
def rO (mi : MI) (kd : Nat → Nat) (n : Nat) (r : Option AV) : Prop := match r with
  | none => mi.2.2.2.1 = none
  | some q => okV kd n q ∧ ((q.1 = 0 ∧ (mi.2.2.2.1 = some .int ∨ (mi.2.2.2.1 = some .boolean ∧ (q.2 = 0 ∨ q.2 = 1)) ∨ (mi.2.2.2.1 = some .byte ∧ q.2 = 0) ∨ (mi.2.2.2.1 = some .char ∧ 0 ≤ q.2 ∧ q.2 < 128))) ∨ (q.1 = 1 ∧ mi.2.2.2.1 = some .long) ∨ (2 ≤ q.1 ∧ q.1 ≤ 16 ∧ ∃ C, mi.2.2.2.1 = some (.object C)))
/-- a boolean method answers 0 or 1 -/
def rB (mi : MI) (r : Option AV) : Prop := ∀ q, r = some q → mi.2.2.2.1 = some .boolean → q.2 = 0 ∨ q.2 = 1
def lvs (G : GG) (ad : Nat → Nat) (L : List (Nat × AV)) : List (Nat × Value) := L.map fun q => (q.1, cv G ad q.2)
/-- from here (place, locals, stack, memory) the method comes to its end, answers r, and the memory is M' -/
def Ev (X : XX) (mi : MI) (d pc : Nat) (L : List (Nat × AV)) (st : List AV) (M : Mm) (r : Option AV) (M' : Mm) : Prop :=
  (mN M ≤ mN M' ∧ mZ M ≤ mZ M') ∧ rB mi r ∧
  ∀ (G : GG) (R : Room) (p : Program) (l : Launch) (e : Env) (s : State) (m : MethodId) (args : Array Value) (below : List Frame) (meth : Method) (c : Code) (Q : State → Prop) (A : Nat → Prop) (kd ad : Nat → Nat) (H : Heap) (locs : List Loc) (cells slots : Nat) (ls : Array Slot),
    Cx X mi G d R p s m args meth c A → Sx G ad kd M A s H locs → (∀ q ∈ st, okV kd (mN M) q) → (∀ q ∈ L, okV kd (mN M) q.2) → lv_has ls mi.2.2.1 (lvs G ad L) →
    cells + (mN M' - mN M) ≤ R.cells → slots + (mZ M' - mZ M) ≤ R.slots →
    (∀ (kd' ad' : Nat → Nat) (H' : Heap) (locs' : List Loc) (cells' slots' pc' : Nat) (ls' : Array Slot), (∀ c, c < mN M → kd' c = kd c ∧ ad' c = ad c) → Sx G ad' kd' M' A s H' locs' → rO mi kd' (mN M') r → rD mi pc' r → cells' ≤ cells + (mN M' - mN M) → slots' ≤ slots + (mZ M' - mZ M) →
      W p l e R s m args below meth c H' locs' cells' slots' Q (F0 m pc' ls' (r.toList.map (cv G ad')))) →
    W p l e R s m args below meth c H locs cells slots Q (F0 m pc ls (st.map (cv G ad)))
/-- the room of a call -/
abbrev rmF (d : Nat) (M M' : Mm) : Room := { frames := d, cells := mN M' - mN M, slots := mZ M' - mZ M, locals := 64 * d }
abbrev wsM (mi : MI) : List Cond := .code mi.1 mi.2.1 mi.2.2.1 mi.2.2.2.1 :: tblG
def preR (X : XX) (G : GG) (ad kd : Nat → Nat) (sz : Nat) (M : Mm) (U : State) : Prop := U.heap.size = sz ∧ va_P G.1 cls (wl G ad kd M) U.heap ∧ va_K G.1 cls (tyG G) U ∧ va_D (fun _ => True) (wl G ad kd M) ∧ Sp X G (va_A (wl G ad kd M) sz) U U.heap
def posR (mi : MI) (G : GG) (ad kd : Nat → Nat) (sz : Nat) (M : Mm) (r : Option AV) (M' : Mm) : Array Value → State → Outcome → State → Prop := fun _ st o t =>
  (∃ kd' ad' : Nat → Nat, o = .returned (r.map (cv G ad')) ∧ (∀ c, c < mN M → kd' c = kd c ∧ ad' c = ad c) ∧ WT kd' M' ∧ rO mi kd' (mN M') r ∧ va_P G.1 cls (wl G ad' kd' M') t.heap ∧ va_K G.1 cls (tyG G) t ∧ va_D (va_A (wl G ad kd M) sz) (wl G ad' kd' M')) ∧ va_F (va_A (wl G ad kd M) sz) st t
/-- the method's contract at these arguments and this memory -/
def Rn (X : XX) (d : Nat) (mi : MI) (as : List AV) (M : Mm) (r : Option AV) (M' : Mm) : Prop :=
  (mN M ≤ mN M' ∧ mZ M ≤ mZ M') ∧ rB mi r ∧
  ∀ (l : Launch) (G : GG) (ad kd : Nat → Nat) (sz : Nat), WT kd M → (∀ q ∈ as, okV kd (mN M) q) →
    Met l mi.1 (wsM mi) (rmF d M M') (va_Pc (as.map (cv G ad)) (preR X G ad kd sz M)) (posR mi G ad kd sz M r M') (mN M' - mN M) (mZ M' - mZ M) (va_A (wl G ad kd M) sz)
