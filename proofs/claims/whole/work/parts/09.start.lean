def r0C : Nat → Nat → Int32 := fun i => if i = 10 then (fun _ => -1) else (fun _ => 0)
def q0M : Nat → Nat → Int32 := fun i => if i = 0 then (upd (upd (upd (upd (fun _ => 0) 0 (-9)) 1 (-9)) 2 (-9)) 3 (-9)) else (fun _ => 0)
theorem refs_ext (cA : ClassId) (n : Nat) {f g : Nat → Option Nat} (h : ∀ j, j < n → f j = g j) : vp_cell cA (n, .inr (.inr (.inr (.inr f)))) = vp_cell cA (n, .inr (.inr (.inr (.inr g)))) := by
  rw [vp_cell_q, vp_cell_q]
  unfold arrV
  congr 2
  funext j
  exact congrArg va_rf (h j.1 j.2)
set_option maxHeartbeats 4000000 in
set_option maxRecDepth 100000 in
theorem conv7 {D : va_G} {cy : Nat → ClassId} {A0 : Nat → Prop} {H0 H : Heap} {locs : List Loc} {b q1 q1_2 q15_2 q3 q1_4 q2_4 q5 q1_6 q2_6 q3_6 q7 q9 q3_2 q5_2 q7_2 q9_2 q11_2 q13_2 q11 q14 q17 q20 q1_12 q1_15 q1_18 q1_21 : Nat} (hI : IW D [(q20, .inr (4, [.ref q1_21, .int (-1), .int 0])), (q1_21, .inl (cy 0, 60, .inl (fun _ => 0))), (q17, .inr (4, [.ref q1_18, .int (-1), .int 0])), (q1_18, .inl (cy 0, 60, .inl (fun _ => 0))), (q14, .inr (4, [.ref q1_15, .int (-1), .int 0])), (q1_15, .inl (cy 0, 60, .inl (fun _ => 0))), (q11, .inr (4, [.ref q1_12, .int (-1), .int 0])), (q1_12, .inl (cy 0, 60, .inl (fun _ => 0))), (q7, .inr (5, [.ref q1, .int 0, .int 0, .int 0, .int 0])), (q5, .inr (2, [.ref q1, .ref q1_6, .ref q2_6, .ref q3_6, .int 0])), (q1_6, .inl (cy 0, 4, .inl (fun _ => 0))), (q2_6, .inl (cy 0, 6, .inl (fun _ => 0))), (q3_6, .inl (cy 0, 6, .inl (fun _ => 0))), (q3, .inr (3, [.ref q1_4, .ref q2_4, .int 0])), (q1_4, .inl (cy 0, 8, .inl (fun _ => 0))), (q2_4, .inl (cy 0, 8, .inl (fun _ => 0))), (q1, .inr (1, [.ref q1_2, .ref q15_2, .int 0, .int 0, .int 0, .int 0])), (q1_2, .inl (cy 1, 6, .inr (.inr (.inr (.inr (va_up (va_up (va_up (va_up (va_up (va_up (fun _ => none) 0 (some q3_2)) 1 (some q5_2)) 2 (some q7_2)) 3 (some q9_2)) 4 (some q11_2)) 5 (some q13_2))))))), (q3_2, .inr (0, [.int 0, .int 0, .int 0, .int 0])), (q5_2, .inr (0, [.int 0, .int 0, .int 0, .int 0])), (q7_2, .inr (0, [.int 0, .int 0, .int 0, .int 0])), (q9_2, .inr (0, [.int 0, .int 0, .int 0, .int 0])), (q11_2, .inr (0, [.int 0, .int 0, .int 0, .int 0])), (q13_2, .inr (0, [.int 0, .int 0, .int 0, .int 0])), (q15_2, .inl (cy 0, 4, .inl (fun _ => 0))), (b, .inr (6, [.ref q1, .ref q3, .ref q5, .ref q7, .ref q9, .int 0, .int 0])), (q9, .inl (cy 2, 4, .inr (.inr (.inr (.inr (va_up (va_up (va_up (va_up (fun _ => none) 0 (some q11)) 1 (some q14)) 2 (some q17)) 3 (some q20)))))))] A0 H0 H locs) : IW D (pcC cy (fun j => ([b, q1, q1_2, q15_2, q3, q1_4, q2_4, q5, q1_6, q2_6, q3_6, q7, q9, q3_2, q5_2, q7_2, q9_2, q11_2, q13_2, q11, q14, q17, q20, q1_12, q1_15, q1_18, q1_21] : List Nat).getD j 0) (fun _ => 0) r0C) A0 H0 H locs := by
  have hP1 := hI.1.sub (ws' := [(b, .inr (6, [.ref q1, .ref q3, .ref q5, .ref q7, .ref q9, .int 0, .int 0])), (q1, .inr (1, [.ref q1_2, .ref q15_2, .int 0, .int 0, .int 0, .int 0])), (q1_2, .inl (cy 1, 6, .inr (.inr (.inr (.inr (va_up (va_up (va_up (va_up (va_up (va_up (fun _ => none) 0 (some q3_2)) 1 (some q5_2)) 2 (some q7_2)) 3 (some q9_2)) 4 (some q11_2)) 5 (some q13_2))))))), (q15_2, .inl (cy 0, 4, .inl (fun _ => 0))), (q3, .inr (3, [.ref q1_4, .ref q2_4, .int 0])), (q1_4, .inl (cy 0, 8, .inl (fun _ => 0))), (q2_4, .inl (cy 0, 8, .inl (fun _ => 0))), (q5, .inr (2, [.ref q1, .ref q1_6, .ref q2_6, .ref q3_6, .int 0])), (q1_6, .inl (cy 0, 4, .inl (fun _ => 0))), (q2_6, .inl (cy 0, 6, .inl (fun _ => 0))), (q3_6, .inl (cy 0, 6, .inl (fun _ => 0))), (q7, .inr (5, [.ref q1, .int 0, .int 0, .int 0, .int 0])), (q9, .inl (cy 2, 4, .inr (.inr (.inr (.inr (va_up (va_up (va_up (va_up (fun _ => none) 0 (some q11)) 1 (some q14)) 2 (some q17)) 3 (some q20))))))), (q3_2, .inr (0, [.int 0, .int 0, .int 0, .int 0])), (q5_2, .inr (0, [.int 0, .int 0, .int 0, .int 0])), (q7_2, .inr (0, [.int 0, .int 0, .int 0, .int 0])), (q9_2, .inr (0, [.int 0, .int 0, .int 0, .int 0])), (q11_2, .inr (0, [.int 0, .int 0, .int 0, .int 0])), (q13_2, .inr (0, [.int 0, .int 0, .int 0, .int 0])), (q11, .inr (4, [.ref q1_12, .int (-1), .int 0])), (q14, .inr (4, [.ref q1_15, .int (-1), .int 0])), (q17, .inr (4, [.ref q1_18, .int (-1), .int 0])), (q20, .inr (4, [.ref q1_21, .int (-1), .int 0])), (q1_12, .inl (cy 0, 60, .inl (fun _ => 0))), (q1_15, .inl (cy 0, 60, .inl (fun _ => 0))), (q1_18, .inl (cy 0, 60, .inl (fun _ => 0))), (q1_21, .inl (cy 0, 60, .inl (fun _ => 0)))]) [25, 16, 17, 24, 13, 14, 15, 9, 10, 11, 12, 8, 26, 18, 19, 20, 21, 22, 23, 6, 4, 2, 0, 7, 5, 3, 1] rfl
  have hD1 := hI.2.1.sub (ws' := [(b, .inr (6, [.ref q1, .ref q3, .ref q5, .ref q7, .ref q9, .int 0, .int 0])), (q1, .inr (1, [.ref q1_2, .ref q15_2, .int 0, .int 0, .int 0, .int 0])), (q1_2, .inl (cy 1, 6, .inr (.inr (.inr (.inr (va_up (va_up (va_up (va_up (va_up (va_up (fun _ => none) 0 (some q3_2)) 1 (some q5_2)) 2 (some q7_2)) 3 (some q9_2)) 4 (some q11_2)) 5 (some q13_2))))))), (q15_2, .inl (cy 0, 4, .inl (fun _ => 0))), (q3, .inr (3, [.ref q1_4, .ref q2_4, .int 0])), (q1_4, .inl (cy 0, 8, .inl (fun _ => 0))), (q2_4, .inl (cy 0, 8, .inl (fun _ => 0))), (q5, .inr (2, [.ref q1, .ref q1_6, .ref q2_6, .ref q3_6, .int 0])), (q1_6, .inl (cy 0, 4, .inl (fun _ => 0))), (q2_6, .inl (cy 0, 6, .inl (fun _ => 0))), (q3_6, .inl (cy 0, 6, .inl (fun _ => 0))), (q7, .inr (5, [.ref q1, .int 0, .int 0, .int 0, .int 0])), (q9, .inl (cy 2, 4, .inr (.inr (.inr (.inr (va_up (va_up (va_up (va_up (fun _ => none) 0 (some q11)) 1 (some q14)) 2 (some q17)) 3 (some q20))))))), (q3_2, .inr (0, [.int 0, .int 0, .int 0, .int 0])), (q5_2, .inr (0, [.int 0, .int 0, .int 0, .int 0])), (q7_2, .inr (0, [.int 0, .int 0, .int 0, .int 0])), (q9_2, .inr (0, [.int 0, .int 0, .int 0, .int 0])), (q11_2, .inr (0, [.int 0, .int 0, .int 0, .int 0])), (q13_2, .inr (0, [.int 0, .int 0, .int 0, .int 0])), (q11, .inr (4, [.ref q1_12, .int (-1), .int 0])), (q14, .inr (4, [.ref q1_15, .int (-1), .int 0])), (q17, .inr (4, [.ref q1_18, .int (-1), .int 0])), (q20, .inr (4, [.ref q1_21, .int (-1), .int 0])), (q1_12, .inl (cy 0, 60, .inl (fun _ => 0))), (q1_15, .inl (cy 0, 60, .inl (fun _ => 0))), (q1_18, .inl (cy 0, 60, .inl (fun _ => 0))), (q1_21, .inl (cy 0, 60, .inl (fun _ => 0)))]) [25, 16, 17, 24, 13, 14, 15, 9, 10, 11, 12, 8, 26, 18, 19, 20, 21, 22, 23, 6, 4, 2, 0, 7, 5, 3, 1] (by decide) rfl
  have hA2 : va_at D vwCl (q1_2, .inl (cy 1, 6, .inr (.inr (.inr (.inr (fun k => some ((fun j => ([b, q1, q1_2, q15_2, q3, q1_4, q2_4, q5, q1_6, q2_6, q3_6, q7, q9, q3_2, q5_2, q7_2, q9_2, q11_2, q13_2, q11, q14, q17, q20, q1_12, q1_15, q1_18, q1_21] : List Nat).getD j 0) (13 + k)))))))) H := by
    have h1 := hP1 2 _ rfl
    refine Eq.trans h1 (congrArg some (refs_ext _ _ (fun j hj => ?_)))
    match j, hj with
    | 0, _ => rfl
    | 1, _ => rfl
    | 2, _ => rfl
    | 3, _ => rfl
    | 4, _ => rfl
    | 5, _ => rfl
    | j + 6, h => exact absurd h (by omega)
  have hP1 := hP1.set hD1 (p := 2) (a := q1_2) rfl hA2 (fun _ _ => rfl)
  have hD1 := hD1.set (p := 2) (a := q1_2) (e := .inl (cy 1, 6, .inr (.inr (.inr (.inr (fun k => some ((fun j => ([b, q1, q1_2, q15_2, q3, q1_4, q2_4, q5, q1_6, q2_6, q3_6, q7, q9, q3_2, q5_2, q7_2, q9_2, q11_2, q13_2, q11, q14, q17, q20, q1_12, q1_15, q1_18, q1_21] : List Nat).getD j 0) (13 + k)))))))) rfl
  have hA12 : va_at D vwCl (q9, .inl (cy 2, 4, .inr (.inr (.inr (.inr (fun k => some ((fun j => ([b, q1, q1_2, q15_2, q3, q1_4, q2_4, q5, q1_6, q2_6, q3_6, q7, q9, q3_2, q5_2, q7_2, q9_2, q11_2, q13_2, q11, q14, q17, q20, q1_12, q1_15, q1_18, q1_21] : List Nat).getD j 0) (19 + k)))))))) H := by
    have h1 := hP1 12 _ rfl
    refine Eq.trans h1 (congrArg some (refs_ext _ _ (fun j hj => ?_)))
    match j, hj with
    | 0, _ => rfl
    | 1, _ => rfl
    | 2, _ => rfl
    | 3, _ => rfl
    | j + 4, h => exact absurd h (by omega)
  have hP1 := hP1.set hD1 (p := 12) (a := q9) rfl hA12 (fun _ _ => rfl)
  have hD1 := hD1.set (p := 12) (a := q9) (e := .inl (cy 2, 4, .inr (.inr (.inr (.inr (fun k => some ((fun j => ([b, q1, q1_2, q15_2, q3, q1_4, q2_4, q5, q1_6, q2_6, q3_6, q7, q9, q3_2, q5_2, q7_2, q9_2, q11_2, q13_2, q11, q14, q17, q20, q1_12, q1_15, q1_18, q1_21] : List Nat).getD j 0) (19 + k)))))))) rfl
  exact ⟨hP1, hD1, hI.2.2⟩
def R_law : String := "TrickHouseLaw"
def lw_P (b : Addr) (xs : List Int32) (args : Array Value) (s : State) : Prop := args = #[.ref b] ∧ s.IntsAt b xs ∧ xs.length ≤ 384 ∧ (Jvm.Cond.and given_1 narrow_1).before args s = true
def lw_Q (_ : Array Value) (s : State) (o : Outcome) (t : State) : Prop := o = .returned (some (.int 1)) ∧ Framed s o t [] 600000 7302250
def lw_Z (below : List Frame) (a : Array Value) (s : State) : State → Prop := fun t => ∃ o, t.status = .running ∧ Ended t below o ∧ lw_Q a s o t
/-- the law's own end, with 1 on the stack, nothing written that was there before, its room as the claim has it -/
theorem lw_ret {p : Program} {l : Launch} {e : Env} {s : State} {m : MethodId} {below : List Frame} {meth : Method} {c : Code} {b : Nat} (hx : p.tables.exec = Jvm.exec) (hb : c.code = code) (hr : meth.sig.returnType = ret) (hlocks : meth.locks = false) {pc : Nat} {H : Heap} {ls : Array Slot} (hdg : decode code pc = .ok (.ireturn, 1)) : W p l e room_1 s m #[Value.ref b] below meth c H [] 600000 7302250 (lw_Z below #[Value.ref b] s) (F0 m pc ls [.int 1]) := by
  intro T hT X
  obtain ⟨fs, hret, hrun, hended, hW, hframe⟩ := X.leave (v := some (.int 1)) (hlocks := hlocks) (fun h => by rw [hr] at h; cases h)
  have hmeth' : T.vm.method? m = some meth := X.method'
  refine ⟨T.setFrames fs, ?_, .returned (some (.int 1)), hrun, hended, rfl, ⟨_, rfl⟩, hW, hframe⟩
  jvm_step X.here [X.here.top, hx, hb, hdg, hmeth', hr, ret, narrow_b1]
  (try refine ⟨rfl, ?_⟩); (try refine ⟨rfl, ?_⟩)
  first | (intro acts; rw [hret _ acts rfl rfl rfl]) | rw [hret _ _ rfl rfl rfl]
  exact Steps.refl _
/-- what holds at the law's entry: the machine, the code, the tables' words (any of lw_tbl by 'hts w (by decide +kernel)'), the script of L ints xs at the cell b, what the Statement gives of the start (any of its parts by flat_of_before) -/
def lw_At (p : Program) (s : State) (m : MethodId) (meth : Method) (c : Code) (b L : Nat) (xs : Nat → Int32) : Prop :=
  p.tables.exec = Jvm.exec ∧ c.code = code ∧ meth.sig.returnType = ret ∧ c.maxLocals = 4 ∧ s.vm.findClass R_law = some m.cls ∧ (∀ w ∈ lw_tbl, w.before #[Value.ref b] s = true) ∧ va_X b L xs s s.heap ∧ b < s.heap.size ∧ meth.locks = false ∧ (Jvm.Cond.and given_1 narrow_1).before #[Value.ref b] s = true
set_option maxHeartbeats 8000000 in
set_option maxRecDepth 100000 in
theorem start_open (Rl : RLT) (hops : Ops Rl) (hR0 : Rl (fun _ => 0) r0C (fun _ => 0) q0M) {p : Program} {e : Env} {s : State} {m : MethodId} {below : List Frame} {meth : Method} {c : Code} (l : Launch) {b L : Nat} {xs : Nat → Int32} (hL : L ≤ 384) (C0 : lw_At p s m meth c b L xs) : W p l e room_1 s m #[Value.ref b] below meth c s.heap [] 0 0 (lw_Z below #[Value.ref b] s) (entryFrame m ([Value.ref b] : List Value).toArray 4) := by
  obtain ⟨hx, hb, hr, hml, hown, hts0, hX, hbl, hlocks, hgv⟩ := id C0
  have hts : ∀ w ∈ wsL_law, w.before #[Value.ref b] s = true := fun w h => hts0 w (wsL_law_in w h)
  have hA : ∀ q, s.heap.size ≤ q → (lA0 s) q := fun _ h => h
  obtain ⟨c0, i0, hKn0⟩ := u_known (C := RX0) (T := TX0) (N := 4) (n := 4) hts0 inX0 (hts0 (.instantiable RX0 4) (List.mem_of_getElem? (i := 63) (by decide +kernel)))
  obtain ⟨c1, i1, hKn1⟩ := u_known (C := RX1) (T := TX1) (N := 6) (n := 6) hts0 inX1 (hts0 (.instantiable RX1 6) (List.mem_of_getElem? (i := 56) (by decide +kernel)))
  obtain ⟨c2, i2, hKn2⟩ := u_known (C := RX2) (T := TX2) (N := 5) (n := 5) hts0 inX2 (hts0 (.instantiable RX2 5) (List.mem_of_getElem? (i := 142) (by decide +kernel)))
  obtain ⟨c3, i3, hKn3⟩ := u_known (C := RX3) (T := TX3) (N := 3) (n := 3) hts0 inX3 (hts0 (.instantiable RX3 3) (List.mem_of_getElem? (i := 125) (by decide +kernel)))
  obtain ⟨c4, i4, hKn4⟩ := u_known (C := RX4) (T := TX4) (N := 3) (n := 3) hts0 inX4 (hts0 (.instantiable RX4 3) (List.mem_of_getElem? (i := 189) (by decide +kernel)))
  obtain ⟨c5, i5, hKn5⟩ := u_known (C := RX6) (T := TX6) (N := 5) (n := 5) hts0 inX6 (hts0 (.instantiable RX6 5) (List.mem_of_getElem? (i := 166) (by decide +kernel)))
  obtain ⟨c6, i6, hKn6⟩ := u_known (C := RX7) (T := TX7) (N := 7) (n := 7) hts0 inX7 (hts0 (.instantiable RX7 7) (List.mem_of_getElem? (i := 48) (by decide +kernel)))
  obtain ⟨c7, i7, hKn7⟩ := u_known (C := RX8) (T := TX8) (N := 32) (n := 32) hts0 inX8 (hts0 (.instantiable RX8 32) (List.mem_of_getElem? (i := 595) (by decide +kernel)))
  obtain ⟨dC, dI, hKc⟩ : ∃ (dC : Nat → ClassId) (dI : Nat → Nat → Nat), ∀ (k : Nat) (q : vw_C), vwCl[k]? = some q → u_Kn s q.1 q.2.1 q.2.2 (dC k) (dI k) := by
    refine ⟨fun k => if k = 0 then c0 else if k = 1 then c1 else if k = 2 then c2 else if k = 3 then c3 else if k = 4 then c4 else if k = 5 then c5 else if k = 6 then c6 else c7, fun k => if k = 0 then i0 else if k = 1 then i1 else if k = 2 then i2 else if k = 3 then i3 else if k = 4 then i4 else if k = 5 then i5 else if k = 6 then i6 else i7, ?_⟩
    intro k q hq
    match k, hq with
    | 0, hq => cases hq; exact hKn0
    | 1, hq => cases hq; exact hKn1
    | 2, hq => cases hq; exact hKn2
    | 3, hq => cases hq; exact hKn3
    | 4, hq => cases hq; exact hKn4
    | 5, hq => cases hq; exact hKn5
    | 6, hq => cases hq; exact hKn6
    | 7, hq => cases hq; exact hKn7
    | k + 8, hq => simp [vwCl] at hq
  obtain ⟨cI, kI, compI, fI, gI, eI⟩ := Cond.arrayClass_spec (hts0 (.arrayClass .int) (List.mem_of_getElem? (i := 123) (by decide +kernel)))
  have ho1 : va_AO "TrickHouse$Article" s := va_AO.of (hts0 (.arrayOver (.object "TrickHouse$Article")) (List.mem_of_getElem? (i := 62) (by decide +kernel)))
  have ho2 : va_AO "TrickHouse$Sheet" s := va_AO.of (hts0 (.arrayOver (.object "TrickHouse$Sheet")) (List.mem_of_getElem? (i := 188) (by decide +kernel)))
  obtain ⟨comp1, cA1, kA1, f1, -, f3, f4, f5⟩ := Cond.arrayOver_spec ho1
  obtain ⟨comp2, cA2, kA2, g1, -, g3, g4, g5⟩ := Cond.arrayOver_spec ho2
  obtain ⟨cy, hcy0, hcy1, hcy2⟩ : ∃ cy : Nat → ClassId, cy 0 = cI ∧ cy 1 = cA1 ∧ cy 2 = cA2 := ⟨fun k => if k = 0 then cI else if k = 1 then cA1 else cA2, rfl, rfl, rfl⟩
  have hK : va_K (dC, dI) vwCl (tyC cy) s := by
    refine ⟨hKc, fun k q hq => ?_⟩
    match k, hq with
    | 0, hq => cases hq; rw [hcy0]; exact ⟨fun n z => ⟨fun k h => (by cases h), kI, gI, compI, eI⟩, fI⟩
    | 1, hq => cases hq; rw [hcy1]; exact ⟨fun n z => ⟨fun k h => (by cases h), kA1, f3, comp1, f4⟩, kA1, comp1, f3, f4, f1, f5⟩
    | 2, hq => cases hq; rw [hcy2]; exact ⟨fun n z => ⟨fun k h => (by cases h), kA2, g3, comp2, g4⟩, kA2, comp2, g3, g4, g1, g5⟩
    | k + 3, hq => simp [tyC] at hq
  have hN : NW s := ⟨va_Nw.of rfl (hts0 (.methodLinkNest RX1 29 yX7_has "TrickHouse") (List.mem_of_getElem? (i := 371) (by decide +kernel))), va_Nw.of rfl (hts0 (.methodLinkNest RX2 42 yX7_has "TrickHouse") (List.mem_of_getElem? (i := 452) (by decide +kernel))), va_Nw.of rfl (hts0 (.methodLinkNest RX3 22 yX7_carried "TrickHouse") (List.mem_of_getElem? (i := 491) (by decide +kernel))), va_Nw.of rfl (hts0 (.methodLinkNest RX5 92 yX7_within "TrickHouse") (List.mem_of_getElem? (i := 273) (by decide +kernel))), va_Nw.of rfl (hts0 (.methodLinkNest RX6 27 yX7_within "TrickHouse") (List.mem_of_getElem? (i := 412) (by decide +kernel))), va_Nw.of rfl (hts0 (.methodLinkNest RX6 45 yX7_has "TrickHouse") (List.mem_of_getElem? (i := 417) (by decide +kernel))), va_Nw.of rfl (hts0 (.methodLinkNest RX1 17 yX0_init "TrickHouse") (List.mem_of_getElem? (i := 64) (by decide +kernel)))⟩
  have S : CallFix p m c cL_law 4 s #[Value.ref b] wsL_law RL := ⟨hx, hb, hml, hown, hts⟩
  have hI : IW (dC, dI) ([] ++ []) (lA0 s) s.heap s.heap [] := ⟨fun k q h => by simp at h, ⟨fun i j p q h => by simp at h, fun k q h => by simp at h⟩, va_S.rf⟩
  have hl := lv_entry ([.ref b]) (n := 4) (Nat.le_of_ble_eq_true rfl)
  rw [lg_entry_eq]
  generalize (lg_sl ([.ref b]) ++ List.replicate (4 - (lg_sl ([.ref b])).length) Slot.unset).toArray = ls at hl ⊢
  have hl : lv_has ls 4 [(0, .ref b)] := hl
  refine th_new (L := []) (Y := []) (cy := cy) (ci := 6) (fs := [.null, .null, .null, .null, .null, .int 0, .int 0]) (C := RX7) (T := TX7) (N := 7) hx hb hts0 inX7 tyX7 tyX7_ok hown (hts0 (.classLink RL 7 RX7) (List.mem_of_getElem? (i := 47) (by decide +kernel))) (hts0 (.instantiable RX7 7) (List.mem_of_getElem? (i := 48) (by decide +kernel))) (hts0 (.initialized RX7) (List.mem_of_getElem? (i := 35) (by decide +kernel))) hK hI hA rfl (fun j hj => by rcases (show j = 0 ∨ j = 1 ∨ j = 2 ∨ j = 3 ∨ j = 4 ∨ j = 5 ∨ j = 6 by omega) with rfl | rfl | rfl | rfl | rfl | rfl | rfl <;> rfl) (Nat.le_of_ble_eq_true rfl) (Nat.le_of_ble_eq_true rfl) dL_law_0 (fun x H hI => ?_)
  refine W.widen (k := 1) (n := 7) (by decide) (by decide) ?_
  refine lv_dup hx hb dL_law_3 rfl ?_
  have hI : IW (dC, dI) [(x, .inr (6, [.null, .null, .null, .null, .null, .int 0, .int 0]))] (lA0 s) s.heap H [] := hI
  refine rn_i S (c_X7_init l (dC, dI) cy (lA0 s) x) (cwI 0 hts gL_law_X7_init rfl rfl rfl (hts0 (.initialized RX7) (List.mem_of_getElem? (i := 35) (by decide +kernel))) (hts0 (.methodLink RL 9 yX7_init) (List.mem_of_getElem? (i := 49) (by decide +kernel))) (hts0 (.instanceMethod yX7_init) (List.mem_of_getElem? (i := 50) (by decide +kernel))) rfl (by decide +kernel) ⟨Nat.le_of_ble_eq_true rfl, Nat.le_of_ble_eq_true rfl⟩) hI hK hN ho1 ho2 hA rfl hl.1 rfl (Nat.le_of_ble_eq_true rfl) dL_law_4 ⟨Nat.le_of_ble_eq_true rfl, Nat.le_of_ble_eq_true rfl⟩ (fun t H locs ht hG hS => ?_)
  obtain ⟨q1, q1_2, q3_2, q5_2, q7_2, q9_2, q11_2, q13_2, q15_2, q3, q1_4, q2_4, q5, q1_6, q2_6, q3_6, q7, q9, q11, q1_12, q14, q1_15, q17, q1_18, q20, q1_21, hP1, -, hD1, -⟩ := hG
  rw [ht] at hP1
  have hI := conv7 ⟨hP1, hD1, hS⟩
  generalize hAe : (fun j => ([x, q1, q1_2, q15_2, q3, q1_4, q2_4, q5, q1_6, q2_6, q3_6, q7, q9, q3_2, q5_2, q7_2, q9_2, q11_2, q13_2, q11, q14, q17, q20, q1_12, q1_15, q1_18, q1_21] : List Nat).getD j 0) = A at hI
  have hA0 : A 0 = x := by rw [← hAe]; rfl
  rw [← hA0]
  refine W.widen (k := 27) (n := 348) (by decide) (by decide) ?_
  refine lv_astore_n (lv' := [(1, .ref (A 0)), (0, .ref b)]) hx hb dL_law_7 rfl hl (by decide) rfl (fun ls hl => ?_)
  have hI : IW (dC, dI) ([] ++ pcC cy A (fun _ => 0) r0C) (lA0 s) s.heap H locs := hI
  refine th_new (L := []) (Y := pcC cy A (fun _ => 0) r0C) (cy := cy) (ci := 7) (fs := [.int 0, .int 0, .null, .null, .null, .int 0, .int 0, .int 0, .int 0, .null, .null, .null, .null, .null, .int 0, .int 0, .int 0, .int 0, .null, .null, .null, .null, .null, .int 0, .int 0, .null, .null, .null, .int 0, .int 0, .null, .null]) (C := RX8) (T := TX8) (N := 32) hx hb hts0 inX8 tyX8 tyX8_ok hown (hts0 (.classLink RL 10 RX8) (List.mem_of_getElem? (i := 594) (by decide +kernel))) (hts0 (.instantiable RX8 32) (List.mem_of_getElem? (i := 595) (by decide +kernel))) (hts0 (.initialized RX8) (List.mem_of_getElem? (i := 42) (by decide +kernel))) hK hI hA rfl (fun j hj => by rcases (show j = 0 ∨ j = 1 ∨ j = 2 ∨ j = 3 ∨ j = 4 ∨ j = 5 ∨ j = 6 ∨ j = 7 ∨ j = 8 ∨ j = 9 ∨ j = 10 ∨ j = 11 ∨ j = 12 ∨ j = 13 ∨ j = 14 ∨ j = 15 ∨ j = 16 ∨ j = 17 ∨ j = 18 ∨ j = 19 ∨ j = 20 ∨ j = 21 ∨ j = 22 ∨ j = 23 ∨ j = 24 ∨ j = 25 ∨ j = 26 ∨ j = 27 ∨ j = 28 ∨ j = 29 ∨ j = 30 ∨ j = 31 by omega) with rfl | rfl | rfl | rfl | rfl | rfl | rfl | rfl | rfl | rfl | rfl | rfl | rfl | rfl | rfl | rfl | rfl | rfl | rfl | rfl | rfl | rfl | rfl | rfl | rfl | rfl | rfl | rfl | rfl | rfl | rfl | rfl <;> rfl) (Nat.le_of_ble_eq_true rfl) (Nat.le_of_ble_eq_true rfl) dL_law_8 (fun y H hI => ?_)
  refine W.widen (k := 28) (n := 380) (by decide) (by decide) ?_
  refine lv_dup hx hb dL_law_11 rfl ?_
  have hI : IW (dC, dI) ([(y, .inr (7, [.int 0, .int 0, .null, .null, .null, .int 0, .int 0, .int 0, .int 0, .null, .null, .null, .null, .null, .int 0, .int 0, .int 0, .int 0, .null, .null, .null, .null, .null, .int 0, .int 0, .null, .null, .null, .int 0, .int 0, .null, .null]))] ++ pcC cy A (fun _ => 0) r0C) (lA0 s) s.heap H locs := hI
  refine rn_i S (c_X8_init l (dC, dI) cy (pcC cy A (fun _ => 0) r0C) (lA0 s) y) (cwI 0 hts gL_law_X8_init rfl rfl rfl (hts0 (.initialized RX8) (List.mem_of_getElem? (i := 42) (by decide +kernel))) (hts0 (.methodLink RL 12 yX8_init) (List.mem_of_getElem? (i := 596) (by decide +kernel))) (hts0 (.instanceMethod yX8_init) (List.mem_of_getElem? (i := 597) (by decide +kernel))) rfl (by decide +kernel) ⟨Nat.le_of_ble_eq_true rfl, Nat.le_of_ble_eq_true rfl⟩) hI hK hN ho1 ho2 hA rfl hl.1 rfl (Nat.le_of_ble_eq_true rfl) dL_law_12 ⟨Nat.le_of_ble_eq_true rfl, Nat.le_of_ble_eq_true rfl⟩ (fun t H locs ht hG hS => ?_)
  obtain ⟨q1, q2, q3, q4, q5, q6, q7, q8, q9, q10, q11, q12, q13, q14, q15, q16, q17, q18, hP1, -, hD1, -⟩ := hG
  rw [ht] at hP1
  have hI : IW (dC, dI) (pcM cy (fun j => ([y, q1, q2, q3, q4, q5, q6, q7, q8, q9, q10, q11, q12, q13, q14, q15, q16, q17, q18] : List Nat).getD j 0) (fun _ => 0) q0M ++ pcC cy A (fun _ => 0) r0C) (lA0 s) s.heap H locs := ⟨hP1, hD1, hS⟩
  generalize hBe : (fun j => ([y, q1, q2, q3, q4, q5, q6, q7, q8, q9, q10, q11, q12, q13, q14, q15, q16, q17, q18] : List Nat).getD j 0) = B at hI
  have hB0 : B 0 = y := by rw [← hBe]; rfl
  rw [← hB0]
  refine W.widen (k := 46) (n := 716) (by decide) (by decide) ?_
  refine lv_astore_n (lv' := [(2, .ref (B 0)), (1, .ref (A 0)), (0, .ref b)]) hx hb dL_law_15 rfl hl (by decide) rfl (fun ls hl => ?_)
  refine lv_iconst (v := 0) hx hb dL_law_16 (by decide) ?_
  refine lv_istore_n (lv' := [(3, .int 0), (2, .ref (B 0)), (1, .ref (A 0)), (0, .ref b)]) hx hb dL_law_17 rfl hl (by decide) rfl (fun ls hl => ?_)
  refine law_loop (D := (dC, dI)) (cy := cy) (A := A) (B := B) (xs := xs) (L := L) (b := b) hL ⟨hx, hb, hml, hown, hts, hX, hbl, hK, hN⟩ hops (fun H locs ls hS => ?_) (L + 7) 0 _ _ _ _ H _ ls (by omega) (IW_swap2 hI) hR0 (lv_sub hl [3, 2, 1, 0] rfl) (by omega)
  refine lv_iconst (v := 1) hx hb dL_law_1185 (by decide) ?_
  refine va_forget (fun q hq => hS.2.2 q hq) ?_
  refine W.widen (k := 600000) (n := 7302250) (Nat.le_of_ble_eq_true rfl) (Nat.le_of_ble_eq_true rfl) ?_
  exact lw_ret hx hb hr hlocks dL_law_1186
