/-! THE CLAIM OUT OF ONE WALK OF THE LAW'S BODY. Your part is whole_start (and what it stands on); all else here is the same for every law, but numbers. -/
def R_law : String := "YesNoClonesLaw"
def lw_P (b : Addr) (xs : List Int32) (args : Array Value) (s : State) : Prop := args = #[.ref b] ∧ s.IntsAt b xs ∧ xs.length ≤ 260 ∧ (Jvm.Cond.and given_1 narrow_1).before args s = true
def lw_Q (_ : Array Value) (s : State) (o : Outcome) (t : State) : Prop := o = .returned (some (.int 1)) ∧ Framed s o t [] 600000 7302249
def lw_Z (below : List Frame) (a : Array Value) (s : State) : State → Prop := fun t => ∃ o, t.status = .running ∧ Ended t below o ∧ lw_Q a s o t
/-- the law's own end, with 1 on the stack, nothing written that was there before, its room as the claim has it -/
theorem lw_ret {p : Program} {l : Launch} {e : Env} {s : State} {m : MethodId} {below : List Frame} {meth : Method} {c : Code} {b : Nat} (hx : p.tables.exec = Jvm.exec) (hb : c.code = code) (hr : meth.sig.returnType = ret) (hlocks : meth.locks = false) {pc : Nat} {H : Heap} {ls : Array Slot} (hdg : decode code pc = .ok (.ireturn, 1)) : W p l e room_1 s m #[Value.ref b] below meth c H [] 600000 7302249 (lw_Z below #[Value.ref b] s) (F0 m pc ls [.int 1]) := by
  intro T hT X
  obtain ⟨fs, hret, hrun, hended, hW, hframe⟩ := X.leave (v := some (.int 1)) (hlocks := hlocks) (fun h => by rw [hr] at h; cases h)
  have hmeth' : T.vm.method? m = some meth := X.method'
  refine ⟨T.setFrames fs, ?_, .returned (some (.int 1)), hrun, hended, rfl, ⟨_, rfl⟩, hW, hframe⟩
  jvm_step X.here [X.here.top, hx, hb, hdg, hmeth', hr, ret, narrow_b1]
  (try refine ⟨rfl, ?_⟩); (try refine ⟨rfl, ?_⟩)
  first | (intro acts; rw [hret _ acts rfl rfl rfl]) | rw [hret _ _ rfl rfl rfl]
  exact Steps.refl _
/-- what holds at the law's entry: the machine, the code, the tables' words (any of lw_tbl by 'hts w (by decide +kernel)'), the script of L ints xs at the cell b, what the Statement gives of the start (any of its parts by flat_of_before) -/
def lw_At (p : Program) (s : State) (m : MethodId) (meth : Method) (c : Code) (b L : Nat) (xs : Nat → Int32) : Prop :=
  p.tables.exec = Jvm.exec ∧ c.code = code ∧ meth.sig.returnType = ret ∧ c.maxLocals = 10 ∧ s.vm.findClass R_law = some m.cls ∧ (∀ w ∈ lw_tbl, w.before #[Value.ref b] s = true) ∧ va_X b L xs s s.heap ∧ b < s.heap.size ∧ meth.locks = false ∧ (Jvm.Cond.and given_1 narrow_1).before #[Value.ref b] s = true
theorem words_ok : ((List.range 9).all fun a => inWl (4, a, 0, 0, 0, 0)) = true := by decide +kernel
def Big1 (L : Nat) (xs : Nat → Int32) : Prop := ∃ n layE hE, big L xs n 136 0 [(0, .retAddr 0)] [] [] (fun _ _ => 0) = some ([.int 1], layE, hE) ∧ layE.length ≤ 600000 ∧ szl layE ≤ 7302249
theorem arr_known {s : State} {args : Array Value} {ty : FieldType} (h : (Cond.arrayClass ty).before args s = true) (ht : ∀ C, ty ≠ .object C) : ∃ cA, ArrOfT s cA ty ∧ va_RA s cA ty := by
  obtain ⟨c, k, comp, h1, h2, h3⟩ := Cond.arrayClass_spec h
  refine ⟨c, fun n z => ⟨fun k h => (by cases h), k, h2, comp, h3⟩, ?_⟩
  cases ty <;> first | exact h1 | exact absurd rfl (ht _)
set_option maxHeartbeats 4000000 in
theorem whole_open {p : Program} {e : Env} {s : State} {m : MethodId} {below : List Frame} {meth : Method} {c : Code} (l : Launch) {b L : Nat} {xs : Nat → Int32} (hB : Big1 L xs) (C0 : lw_At p s m meth c b L xs) : W p l e room_1 s m #[Value.ref b] below meth c s.heap [] 0 0 (lw_Z below #[Value.ref b] s) (entryFrame m ([Value.ref b] : List Value).toArray 10) := by
  obtain ⟨n, layE, hE, hb, hl1, hl2⟩ := hB
  obtain ⟨hxx, hbb, hret, hml, hown, hts, hX, hbl, hlocks, -⟩ := C0
  have hk : ∀ a : Nat, ∃ q : ClassId × (Nat → Nat), a < 9 → u_Kn s (cN a) (vT a) (vN a) q.1 q.2 := fun a => by
    by_cases ha : a < 9
    · have hw : dec (4, a, 0, 0, 0, 0) ∈ lw_tbl := inWl_in (List.all_eq_true.mp words_ok a (List.mem_range.mpr ha))
      obtain ⟨cC, iS, h⟩ := u_known hts (fun w hw => (List.mem_filter.mp (uws_in ha w hw)).1) (hts _ hw)
      exact ⟨(cC, iS), fun _ => h⟩
    · exact ⟨(0, fun _ => 0), fun q => absurd q ha⟩
  let D : va_G := (fun a => (Classical.choose (hk a)).1, fun a => (Classical.choose (hk a)).2)
  obtain ⟨cI, hI1, hI2⟩ := arr_known (ty := .int) (hts _ w_ai) (fun C h => by cases h)
  obtain ⟨cZ, hZ1, hZ2⟩ := arr_known (ty := .boolean) (hts _ w_az) (fun C h => by cases h)
  let ca : Bool → ClassId := fun q => bif q then cZ else cI
  have hK : va_K D vwCl (tys ca) s := by
    refine ⟨fun a q hq => ?_, fun a q hq => ?_⟩
    · have ha : a < 9 := lt_of_at hq
      rw [vw_at a ha] at hq
      cases hq
      exact Classical.choose_spec (hk a) ha
    · have ha : a < 2 := lt_of_at hq
      match a, ha with
      | 0, _ => cases hq; exact ⟨hI1, hI2⟩
      | 1, _ => cases hq; exact ⟨hZ1, hZ2⟩
  have hC : CxT (p, l, e, room_1, s, m, #[Value.ref b], below, meth, c, D, ca, s.heap.size, b, 0, 0, lw_Z below #[Value.ref b] s) 136 := by
    refine ⟨by decide, hxx, hbb, hml, hown, fun w hw => hts w (List.mem_filter.mp hw).1, fun w hw => ?_, fun q => absurd q (by decide), by decide, Nat.le_of_ble_eq_true rfl, hK⟩
    obtain ⟨a', i, x, q, rfl⟩ := nws_form hw
    exact va_Nw.of rfl (hts _ (List.mem_filter.mp hw).1)
  have hO := sound n hb (p, l, e, room_1, s, m, #[Value.ref b], below, meth, c, D, ca, s.heap.size, b, 0, 0, lw_Z below #[Value.ref b] s) hC ⟨Nat.le_refl _, fun _ => ⟨hX, hbl, hbl⟩⟩ ⟨Nat.le_refl _, Nat.le_refl _, hl1, hl2⟩ (fun pc H locs ls hv hP hS => by
    rcases hv with ⟨q, -⟩ | ⟨x, q, -, hd⟩ | ⟨x, q, -⟩
    · cases q
    · cases q
      refine va_forget hS.2.2 (W.widen hl1 hl2 ?_)
      exact lw_ret hxx hbb hret hlocks hd
    · cases q)
  have hl := lv_entry ([.ref b]) (n := 10) (Nat.le_of_ble_eq_true rfl)
  rw [lg_entry_eq]
  generalize (lg_sl ([.ref b]) ++ List.replicate (10 - (lg_sl ([.ref b])).length) Slot.unset).toArray = ls at hl ⊢
  exact hO s.heap [] ls hl ⟨fun k q h => by simp [wls] at h, rfl⟩ va_S.rf
