def R_law : String := "TownBandLaw"
def lw_P (b : Addr) (xs : List Int32) (args : Array Value) (s : State) : Prop := args = #[.ref b] ∧ s.IntsAt b xs ∧ xs.length ≤ 3072 ∧ (Jvm.Cond.and given_1 narrow_1).before args s = true
def lw_Q (_ : Array Value) (s : State) (o : Outcome) (t : State) : Prop := o = .returned (some (.int 1)) ∧ Framed s o t [] 600000 7302250
def lw_Z (below : List Frame) (a : Array Value) (s : State) : State → Prop := fun t => ∃ o, t.status = .running ∧ Ended t below o ∧ lw_Q a s o t
/-- the law's own end, with 1 on the stack, nothing written that was there before, its room as the claim has it -/
theorem lw_ret {p : Program} {l : Launch} {e : Env} {s : State} {m : MethodId} {below : List Frame} {meth : Method} {c : Code} {b : Nat} (hx : p.tables.exec = Jvm.exec) (hb : c.code = code) (hr : meth.sig.returnType = ret) (hlocks : meth.locks = false) {pc : Nat} {H : Heap} {ls : Array Slot} (hdg : decode code pc = .ok (.ireturn, 1)) : W p l e room_1 s m #[Value.ref b] below meth c H [] 600000 7302250 (lw_Z below #[Value.ref b] s) (F0 m pc ls [.int 1]) := by
  intro T hT X
  obtain ⟨fs, hret, hrun, hended, hW, hframe⟩ := X.leave (v := some (.int 1)) (hlocks := hlocks) (fun h => by rw [hr] at h; cases h)
  have hmeth' : T.vm.method? m = some meth := X.method'
  refine ⟨T.setFrames fs, ?_, .returned (some (.int 1)), hrun, hended, rfl, ⟨_, rfl⟩, hW, hframe⟩
  jvm_step X.here [X.here.top, hx, hb, hdg, hmeth', hr, ret, narrow_b1]
  (try refine ⟨rfl, ?_⟩); (try refine ⟨rfl, ?_⟩)
  first | (intro acts; rw [hret _ acts rfl rfl rfl]) | rw [hret _ _ rfl rfl rfl]
  exact Steps.refl _
/-- what holds at the law's entry: the machine, the code, the tables' words (any of lw_tbl by 'hts w (by decide +kernel)'), the script of L ints xs at the cell b, what the Statement gives of the start (any of its parts by flat_of_before) -/
def lw_At (p : Program) (s : State) (m : MethodId) (meth : Method) (c : Code) (b L : Nat) (xs : Nat → Int32) : Prop :=
  p.tables.exec = Jvm.exec ∧ c.code = code ∧ meth.sig.returnType = ret ∧ c.maxLocals = 4 ∧ s.vm.findClass R_law = some m.cls ∧ (∀ w ∈ lw_tbl, w.before #[Value.ref b] s = true) ∧ va_X b L xs s s.heap ∧ b < s.heap.size ∧ meth.locks = false ∧ (Jvm.Cond.and given_1 narrow_1).before #[Value.ref b] s = true ∧ meth.name = "law"

/-- what is left: the law's mirror answers 1 on every script, within the room -/
def LawOk : Prop := ∀ X : XX, X.1 ≤ 3072 → (∀ j, ok32 (X.2 j)) → ∃ M' : Mm, f_Law_law X M0 1 = some (1, M') ∧ mN M' ≤ 600000 ∧ mZ M' ≤ 7302250
theorem tblG_sub {w : Cond} (h : w ∈ tblG) : w ∈ lw_tbl := (List.mem_filter.mp h).1
theorem whole_of (hm : LawOk) {p : Program} {e : Env} {s : State} {m : MethodId} {below : List Frame} {meth : Method} {c : Code} (l : Launch) {b L : Nat} {xs : Nat → Int32} (hL : L ≤ 3072) (C0 : lw_At p s m meth c b L xs) : W p l e room_1 s m #[Value.ref b] below meth c s.heap [] 0 0 (lw_Z below #[Value.ref b] s) (entryFrame m ([Value.ref b] : List Value).toArray 4) := by
  obtain ⟨hx, hb, hr, hml, hown, hts, hX, hbl, hlocks, hgv, hname⟩ := C0
  obtain ⟨M', hf, hn, hz⟩ := hm (L, fun j => (xs j).toInt) hL (fun j => i32_ok _)
  have hE := c_Law_law (X := (L, fun j => (xs j).toInt)) (d := 100) (by omega) (show L < 2147483648 by omega) (fun j => i32_ok _) hf
  have htG : ∀ w ∈ tblG, w.before #[Value.ref b] s = true := fun w hw => hts w (tblG_sub hw)
  have hao : (Cond.arrayOver (.object "TownBand$Piece")).before #[Value.ref b] s = true := hts _ (List.mem_append_right _ (List.mem_append_left _ (List.mem_of_getElem? (i := 69) rfl)))
  obtain ⟨D, q, hK⟩ := known_all htG hao
  obtain ⟨sp, esp, hSp⟩ := sp_all (D := D) (q := q) hts hX hbl hgv
  have hw0 : wl (D, q, sp) (fun _ => 0) (fun _ => 0) M0 = [] := rfl
  rw [lg_entry_eq]
  have hl := lv_entry ([Value.ref b]) (n := 4) (Nat.le_of_ble_eq_true rfl)
  have el : lv_args 0 [Value.ref b] = lvs (D, q, sp) (fun _ => 0) [(0, (17, 1))] := by
    show [(0, Value.ref b)] = [(0, Value.ref (sp 17))]
    rw [esp]
  rw [el] at hl
  refine hE.2.2 (D, q, sp) room_1 p l e s m #[Value.ref b] below meth c _ (fun q => s.heap.size ≤ q) (fun _ => 0) (fun _ => 0) s.heap [] 0 0 _ ⟨hx, hb, hml, hown, htG, hname, fun q h => h, hSp, hK sp, by decide, by decide⟩ ⟨fun c hc => absurd hc (Nat.not_lt_zero c), ?_, ?_, va_S.rf⟩ (fun q hq => by cases hq) (fun q hq => ?_) hl ?_ ?_ ?_
  · rw [hw0]; intro k q hq; cases hq
  · rw [hw0]; exact ⟨fun i j x y hi => (by cases hi), fun k q hq => (by cases hq)⟩
  · rcases List.mem_singleton.mp hq with rfl
    exact ⟨fun e => by simp at e, fun e => by simp at e, fun _ e => by simp at e, fun e => by simp at e, fun e => by simp at e⟩
  · show 0 + (mN M' - 0) ≤ 600000
    omega
  · show 0 + (mZ M' - 0) ≤ 7302250
    omega
  · intro kd' ad' H' locs' cells' slots' pc' ls' g1 g2 g3 g4 g5 g6
    refine va_forget (fun q hq => g2.2.2.2.2.2 q hq) ?_
    have g5 : cells' ≤ 0 + (mN M' - 0) := g5
    have g6 : slots' ≤ 0 + (mZ M' - 0) := g6
    refine W.widen (k := 600000) (n := 7302250) (by omega) (by omega) ?_
    exact lw_ret hx hb hr hlocks g4
