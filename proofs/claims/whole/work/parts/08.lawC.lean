abbrev V1 : Type := Nat → Int32
abbrev V2 : Type := Nat → Nat → Int32
abbrev RLT : Type := V1 → V2 → V1 → V2 → Prop
theorem lgc0 (y : Int64) : lg_cmp y y = 0 := by simp [lg_cmp]
/-- what holds at the law's entry, for its cases -/
def LCx (p : Program) (s : State) (m : MethodId) (args : Array Value) (c : Code) (D : va_G) (cy : Nat → ClassId) (b L : Nat) (xs : Nat → Int32) : Prop := p.tables.exec = Jvm.exec ∧ c.code = cL_law ∧ c.maxLocals = 4 ∧ s.vm.findClass RL = some m.cls ∧ (∀ w ∈ wsL_law, w.before args s = true) ∧ va_X b L xs s s.heap ∧ b < s.heap.size ∧ va_K D vwCl (tyC cy) s ∧ NW s
abbrev lA0 (s : State) : Nat → Prop := fun q => s.heap.size ≤ q
/-- call 0: X7_city -/
def Op0 (Rl : RLT) : Prop := ∀ (v : V1) (r : V2) (w : V1) (q : V2) (z0 z1 z2 z3 : Int32), Rl v r w q → ∃ (y : Int32) (v1 : V1) (r1 : V2) (w1 : V1) (q1 : V2), f_X7_city v r z0 z1 z2 z3 = some (y, (v1, r1)) ∧ f_X8_city w q z0 z1 z2 z3 = some (y, (w1, q1)) ∧ Rl v1 r1 w1 q1
/-- call 1: X7_ofArticle -/
def Op1 (Rl : RLT) : Prop := ∀ (v : V1) (r : V2) (w : V1) (q : V2) (z0 z1 : Int32), Rl v r w q → ∃ (y : Int32), f_X7_ofArticle v r z0 z1 = some y ∧ f_X8_ofArticle w q z0 z1 = some y
/-- call 2: X7_space -/
def Op2 (Rl : RLT) : Prop := ∀ (v : V1) (r : V2) (w : V1) (q : V2) (z0 : Int32), Rl v r w q → ∃ (y : Int32), f_X7_space v r z0 = some y ∧ f_X8_space w q z0 = some y
/-- call 3: X7_cheer -/
def Op3 (Rl : RLT) : Prop := ∀ (v : V1) (r : V2) (w : V1) (q : V2) (z0 z1 : Int32), Rl v r w q → ∃ (y : Int32) (v1 : V1) (r1 : V2) (w1 : V1) (q1 : V2), f_X7_cheer v r z0 z1 = some (y, (v1, r1)) ∧ f_X8_cheer w q z0 z1 = some (y, (w1, q1)) ∧ Rl v1 r1 w1 q1
/-- call 4: X7_miss -/
def Op4 (Rl : RLT) : Prop := ∀ (v : V1) (r : V2) (w : V1) (q : V2) (z0 z1 : Int32), Rl v r w q → ∃ (y : Int32) (v1 : V1) (r1 : V2) (w1 : V1) (q1 : V2), f_X7_miss v r z0 z1 = some (y, (v1, r1)) ∧ f_X8_miss w q z0 z1 = some (y, (w1, q1)) ∧ Rl v1 r1 w1 q1
/-- call 5: X7_widen -/
def Op5 (Rl : RLT) : Prop := ∀ (v : V1) (r : V2) (w : V1) (q : V2) (z0 z1 : Int32), Rl v r w q → ∃ (y : Int32) (v1 : V1) (r1 : V2) (w1 : V1) (q1 : V2), f_X7_widen v r z0 z1 = some (y, (v1, r1)) ∧ f_X8_widen w q z0 z1 = some (y, (w1, q1)) ∧ Rl v1 r1 w1 q1
/-- call 6: X7_shift -/
def Op6 (Rl : RLT) : Prop := ∀ (v : V1) (r : V2) (w : V1) (q : V2) (z0 : Int32), Rl v r w q → ∃ (y : Int32) (v1 : V1) (r1 : V2) (w1 : V1) (q1 : V2), f_X7_shift v r z0 = some (y, (v1, r1)) ∧ f_X8_shift w q z0 = some (y, (w1, q1)) ∧ Rl v1 r1 w1 q1
/-- call 7: X7_there -/
def Op7 (Rl : RLT) : Prop := ∀ (v : V1) (r : V2) (w : V1) (q : V2), Rl v r w q → ∃ (y : Int32), f_X7_there v r = y ∧ f_X8_there w q = y
/-- call 8: X7_company -/
def Op8 (Rl : RLT) : Prop := ∀ (v : V1) (r : V2) (w : V1) (q : V2) (z0 : Int32), Rl v r w q → ∃ (y : Int32), f_X7_company v r z0 = some y ∧ f_X8_company w q z0 = some y
/-- call 9: X7_send -/
def Op9 (Rl : RLT) : Prop := ∀ (v : V1) (r : V2) (w : V1) (q : V2) (z0 : Int32), Rl v r w q → ∃ (y : Int32) (v1 : V1) (r1 : V2) (w1 : V1) (q1 : V2), f_X7_send v r z0 = some (y, (v1, r1)) ∧ f_X8_send w q z0 = some (y, (w1, q1)) ∧ Rl v1 r1 w1 q1
/-- call 10: X7_call -/
def Op10 (Rl : RLT) : Prop := ∀ (v : V1) (r : V2) (w : V1) (q : V2) (z0 : Int32), Rl v r w q → ∃ (y : Int32) (v1 : V1) (r1 : V2) (w1 : V1) (q1 : V2), f_X7_call v r z0 = some (y, (v1, r1)) ∧ f_X8_call w q z0 = some (y, (w1, q1)) ∧ Rl v1 r1 w1 q1
/-- call 11: X7_laughter -/
def Op11 (Rl : RLT) : Prop := ∀ (v : V1) (r : V2) (w : V1) (q : V2), Rl v r w q → ∃ (y : Int32), f_X7_laughter v r = some y ∧ f_X8_laughter w q = some y
/-- call 12: X7_heard -/
def Op12 (Rl : RLT) : Prop := ∀ (v : V1) (r : V2) (w : V1) (q : V2) (z0 : Int32), Rl v r w q → ∃ (y : Int32), f_X7_heard v r z0 = some y ∧ f_X8_heard w q z0 = some y
/-- call 13: X7_year -/
def Op13 (Rl : RLT) : Prop := ∀ (v : V1) (r : V2) (w : V1) (q : V2) (z0 z1 z2 z3 z4 : Int32), Rl v r w q → ∃ (y : Int32) (v1 : V1) (r1 : V2) (w1 : V1) (q1 : V2), f_X7_year v r z0 z1 z2 z3 z4 = some (y, (v1, r1)) ∧ f_X8_year w q z0 z1 z2 z3 z4 = some (y, (w1, q1)) ∧ Rl v1 r1 w1 q1
/-- call 14: X7_packs -/
def Op14 (Rl : RLT) : Prop := ∀ (v : V1) (r : V2) (w : V1) (q : V2) (z0 z1 : Int32), Rl v r w q → ∃ (y : Int32) (v1 : V1) (r1 : V2) (w1 : V1) (q1 : V2), f_X7_packs v r z0 z1 = some (y, (v1, r1)) ∧ f_X8_packs w q z0 z1 = some (y, (w1, q1)) ∧ Rl v1 r1 w1 q1
/-- call 15: X7_fetch -/
def Op15 (Rl : RLT) : Prop := ∀ (v : V1) (r : V2) (w : V1) (q : V2) (z0 : Int32), Rl v r w q → ∃ (y : Int32), f_X7_fetch v r z0 = some y ∧ f_X8_fetch w q z0 = some y
/-- call 16: X7_lure -/
def Op16 (Rl : RLT) : Prop := ∀ (v : V1) (r : V2) (w : V1) (q : V2) (z0 : Int32), Rl v r w q → ∃ (y : Int32), f_X7_lure v r z0 = some y ∧ f_X8_lure w q z0 = some y
/-- call 17: X7_reading -/
def Op17 (Rl : RLT) : Prop := ∀ (v : V1) (r : V2) (w : V1) (q : V2) (z0 z1 : Int32), Rl v r w q → ∃ (y : Int32) (v1 : V1) (r1 : V2) (w1 : V1) (q1 : V2), f_X7_reading v r z0 z1 = some (y, (v1, r1)) ∧ f_X8_reading w q z0 z1 = some (y, (w1, q1)) ∧ Rl v1 r1 w1 q1
/-- call 18: X7_back -/
def Op18 (Rl : RLT) : Prop := ∀ (v : V1) (r : V2) (w : V1) (q : V2) (z0 : Int32), Rl v r w q → ∃ (y : Int32) (v1 : V1) (r1 : V2) (w1 : V1) (q1 : V2), f_X7_back v r z0 = some (y, (v1, r1)) ∧ f_X8_back w q z0 = some (y, (w1, q1)) ∧ Rl v1 r1 w1 q1
/-- call 19: X7_gaieties -/
def Op19 (Rl : RLT) : Prop := ∀ (v : V1) (r : V2) (w : V1) (q : V2) (z0 : Int32), Rl v r w q → ∃ (y : Int32) (w1 : V1) (q1 : V2), f_X7_gaieties v r z0 = some y ∧ f_X8_gaieties w q z0 = some (y, (w1, q1)) ∧ Rl v r w1 q1
/-- call 20: X7_kinds -/
def Op20 (Rl : RLT) : Prop := ∀ (v : V1) (r : V2) (w : V1) (q : V2) (z0 : Int32), Rl v r w q → ∃ (y : Int32) (w1 : V1) (q1 : V2), f_X7_kinds v r z0 = some y ∧ f_X8_kinds w q z0 = some (y, (w1, q1)) ∧ Rl v r w1 q1
/-- call 21: X7_wheres -/
def Op21 (Rl : RLT) : Prop := ∀ (v : V1) (r : V2) (w : V1) (q : V2) (z0 : Int32), Rl v r w q → ∃ (y : Int64) (w1 : V1) (q1 : V2), f_X7_wheres v r z0 = some y ∧ f_X8_wheres w q z0 = some (y, (w1, q1)) ∧ Rl v r w1 q1
/-- call 22: X7_odds -/
def Op22 (Rl : RLT) : Prop := ∀ (v : V1) (r : V2) (w : V1) (q : V2) (z0 z1 : Int32), Rl v r w q → ∃ (y : Int64), f_X7_odds v r z0 z1 = some y ∧ f_X8_odds w q z0 z1 = some y
/-- call 23: X7_sheet -/
def Op23 (Rl : RLT) : Prop := ∀ (v : V1) (r : V2) (w : V1) (q : V2) (z0 z1 z2 : Int32), Rl v r w q → ∃ (y : Int32) (v1 : V1) (r1 : V2) (w1 : V1) (q1 : V2), f_X7_sheet v r z0 z1 z2 = some (y, (v1, r1)) ∧ f_X8_sheet w q z0 z1 z2 = some (y, (w1, q1)) ∧ Rl v1 r1 w1 q1
/-- call 24: X7_lose -/
def Op24 (Rl : RLT) : Prop := ∀ (v : V1) (r : V2) (w : V1) (q : V2) (z0 : Int32), Rl v r w q → ∃ (y : Int32) (v1 : V1) (r1 : V2) (w1 : V1) (q1 : V2), f_X7_lose v r z0 = some (y, (v1, r1)) ∧ f_X8_lose w q z0 = some (y, (w1, q1)) ∧ Rl v1 r1 w1 q1
/-- call 25: X7_put -/
def Op25 (Rl : RLT) : Prop := ∀ (v : V1) (r : V2) (w : V1) (q : V2) (z0 z1 z2 : Int32), Rl v r w q → ∃ (y : Int32) (v1 : V1) (r1 : V2) (w1 : V1) (q1 : V2), f_X7_put v r z0 z1 z2 = some (y, (v1, r1)) ∧ f_X8_put w q z0 z1 z2 = some (y, (w1, q1)) ∧ Rl v1 r1 w1 q1
/-- call 26: X7_cell -/
def Op26 (Rl : RLT) : Prop := ∀ (v : V1) (r : V2) (w : V1) (q : V2) (z0 z1 z2 : Int32), Rl v r w q → ∃ (y : Int64) (v1 : V1) (r1 : V2) (w1 : V1) (q1 : V2), f_X7_cell v r z0 z1 z2 = some (y, (v1, r1)) ∧ f_X8_cell w q z0 z1 z2 = some (y, (w1, q1)) ∧ Rl v1 r1 w1 q1
/-- call 27: X7_copy -/
def Op27 (Rl : RLT) : Prop := ∀ (v : V1) (r : V2) (w : V1) (q : V2) (z0 z1 z2 z3 z4 : Int32), Rl v r w q → ∃ (y : Int32) (v1 : V1) (r1 : V2) (w1 : V1) (q1 : V2), f_X7_copy v r z0 z1 z2 z3 z4 = some (y, (v1, r1)) ∧ f_X8_copy w q z0 z1 z2 z3 z4 = some (y, (w1, q1)) ∧ Rl v1 r1 w1 q1
/-- call 28: X7_tell -/
def Op28 (Rl : RLT) : Prop := ∀ (v : V1) (r : V2) (w : V1) (q : V2) (z0 : Int32), Rl v r w q → ∃ (y : Int32) (v1 : V1) (r1 : V2) (w1 : V1) (q1 : V2), f_X7_tell v r z0 = some (y, (v1, r1)) ∧ f_X8_tell w q z0 = some (y, (w1, q1)) ∧ Rl v1 r1 w1 q1
/-- call 29: X7_announce -/
def Op29 (Rl : RLT) : Prop := ∀ (v : V1) (r : V2) (w : V1) (q : V2) (z0 : Int32), Rl v r w q → ∃ (y : Int32) (v1 : V1) (r1 : V2) (w1 : V1) (q1 : V2), f_X7_announce v r z0 = some (y, (v1, r1)) ∧ f_X8_announce w q z0 = some (y, (w1, q1)) ∧ Rl v1 r1 w1 q1
/-- call 30: X7_as -/
def Op30 (Rl : RLT) : Prop := ∀ (v : V1) (r : V2) (w : V1) (q : V2) (z0 z1 : Int32), Rl v r w q → ∃ (y : Int32) (v1 : V1) (r1 : V2) (w1 : V1) (q1 : V2), f_X7_as v r z0 z1 = some (y, (v1, r1)) ∧ f_X8_as w q z0 z1 = some (y, (w1, q1)) ∧ Rl v1 r1 w1 q1
/-- call 31: X7_trace -/
def Op31 (Rl : RLT) : Prop := ∀ (v : V1) (r : V2) (w : V1) (q : V2), Rl v r w q → ∃ (y : Int32), f_X7_trace v r = y ∧ f_X8_trace w q = y
/-- call 32: X7_fault -/
def Op32 (Rl : RLT) : Prop := ∀ (v : V1) (r : V2) (w : V1) (q : V2), Rl v r w q → ∃ (y : Int32), f_X7_fault v r = y ∧ f_X8_fault w q = y
/-- call 33: X7_many -/
def Op33 (Rl : RLT) : Prop := ∀ (v : V1) (r : V2) (w : V1) (q : V2) (z0 : Int32), Rl v r w q → ∃ (y : Int32), f_X7_many v r z0 = y ∧ f_X8_many w q z0 = some y
set_option maxHeartbeats 4000000 in
set_option maxRecDepth 100000 in
theorem law_c0 {p : Program} {l : Launch} {e : Env} {s : State} {m : MethodId} {args : Array Value} {below : List Frame} {meth : Method} {c : Code} {D : va_G} {cy : Nat → ClassId} {A B : Nat → Nat} {b L : Nat} {xs : Nat → Int32} {Q : State → Prop} {Rl : RLT} (C : LCx p s m args c D cy b L xs) (hop : Op0 Rl) {v : V1} {r : V2} {w : V1} {q : V2} {H : Heap} {locs : List Loc} {ls : Array Slot} (hI : IW D (pcC cy A v r ++ pcM cy B w q) (lA0 s) s.heap H locs) (hRl : Rl v r w q) (x3 : Int32) (h1 : vp_in (x3 + 1) L) (h2 : vp_in (x3 + 2) L) (h3 : vp_in (x3 + 3) L) (h4 : vp_in (x3 + 4) L) (h5 : vp_in (x3 + 5) L) (hl : lv_has ls 4 [(0, .ref b), (1, .ref (A 0)), (2, .ref (B 0)), (3, .int x3)]) (kk : ∀ (v : V1) (r : V2) (w : V1) (q : V2) (H : Heap) (locs : List Loc) (ls : Array Slot), IW D (pcC cy A v r ++ pcM cy B w q) (lA0 s) s.heap H locs → Rl v r w q → lv_has ls 4 [(0, .ref b), (1, .ref (A 0)), (2, .ref (B 0)), (3, .int x3)] → W p l e room_1 s m args below meth c H locs 46 716 Q (F0 m 1179 ls [])) : W p l e room_1 s m args below meth c H locs 46 716 Q (F0 m 184 ls []) := by
  obtain ⟨hx, hb, hml, hown, hts, hX, hbl, hK, hN⟩ := C
  have hbA : ¬ (lA0 s) b := Nat.not_le.mpr hbl
  have S : CallFix p m c cL_law 4 s args wsL_law RL := ⟨hx, hb, hml, hown, hts⟩
  obtain ⟨y, v1, r1, w1, q1, e1, e2, hRl1⟩ := hop v r w q (xs (x3 + 1).toNatClampNeg) (xs (x3 + 2).toNatClampNeg) (xs (x3 + 3).toNatClampNeg) (xs (x3 + 4).toNatClampNeg) hRl
  refine lv_aload_n hx hb dL_law_184 rfl (lv_at hl 1 rfl) ?_
  refine lv_aload_n hx hb dL_law_185 rfl (lv_at hl 0 rfl) ?_
  refine lv_iload_n hx hb dL_law_186 rfl (lv_at hl 3 rfl) ?_
  refine lv_iconst (v := 1) hx hb dL_law_187 (by decide) ?_
  refine lv_iadd hx hb dL_law_188 ?_
  refine va_sld hx hb hX hbl hbA hI.2.2 h1 dL_law_189 ?_
  refine lv_aload_n hx hb dL_law_190 rfl (lv_at hl 0 rfl) ?_
  refine lv_iload_n hx hb dL_law_191 rfl (lv_at hl 3 rfl) ?_
  refine lv_iconst (v := 2) hx hb dL_law_192 (by decide) ?_
  refine lv_iadd hx hb dL_law_193 ?_
  refine va_sld hx hb hX hbl hbA hI.2.2 h2 dL_law_194 ?_
  refine lv_aload_n hx hb dL_law_195 rfl (lv_at hl 0 rfl) ?_
  refine lv_iload_n hx hb dL_law_196 rfl (lv_at hl 3 rfl) ?_
  refine lv_iconst (v := 3) hx hb dL_law_197 (by decide) ?_
  refine lv_iadd hx hb dL_law_198 ?_
  refine va_sld hx hb hX hbl hbA hI.2.2 h3 dL_law_199 ?_
  refine lv_aload_n hx hb dL_law_200 rfl (lv_at hl 0 rfl) ?_
  refine lv_iload_n hx hb dL_law_201 rfl (lv_at hl 3 rfl) ?_
  refine lv_iconst (v := 4) hx hb dL_law_202 (by decide) ?_
  refine lv_iadd hx hb dL_law_203 ?_
  refine va_sld hx hb hX hbl hbA hI.2.2 h4 dL_law_204 ?_
  refine rw_v S (c_X7_city l D cy A (pcM cy B w q) (lA0 s) v r (xs (x3 + 1).toNatClampNeg) (xs (x3 + 2).toNatClampNeg) (xs (x3 + 3).toNatClampNeg) (xs (x3 + 4).toNatClampNeg) y v1 r1 e1) (cwV 4 hts gL_law_X7_city rfl rfl rfl (by decide +kernel) ⟨Nat.le_of_ble_eq_true rfl, Nat.le_of_ble_eq_true rfl⟩) hI hK hN (ci := 6) rfl atC_0 rfl rfl hl.1 rfl (Nat.le_of_ble_eq_true rfl) dL_law_205 ⟨Nat.le_of_ble_eq_true rfl, Nat.le_of_ble_eq_true rfl⟩ (fun H locs hI => ?_)
  refine lv_aload_n hx hb dL_law_208 rfl (lv_at hl 2 rfl) ?_
  refine lv_aload_n hx hb dL_law_209 rfl (lv_at hl 0 rfl) ?_
  refine lv_iload_n hx hb dL_law_210 rfl (lv_at hl 3 rfl) ?_
  refine lv_iconst (v := 1) hx hb dL_law_211 (by decide) ?_
  refine lv_iadd hx hb dL_law_212 ?_
  refine va_sld hx hb hX hbl hbA hI.2.2 h1 dL_law_213 ?_
  refine lv_aload_n hx hb dL_law_214 rfl (lv_at hl 0 rfl) ?_
  refine lv_iload_n hx hb dL_law_215 rfl (lv_at hl 3 rfl) ?_
  refine lv_iconst (v := 2) hx hb dL_law_216 (by decide) ?_
  refine lv_iadd hx hb dL_law_217 ?_
  refine va_sld hx hb hX hbl hbA hI.2.2 h2 dL_law_218 ?_
  refine lv_aload_n hx hb dL_law_219 rfl (lv_at hl 0 rfl) ?_
  refine lv_iload_n hx hb dL_law_220 rfl (lv_at hl 3 rfl) ?_
  refine lv_iconst (v := 3) hx hb dL_law_221 (by decide) ?_
  refine lv_iadd hx hb dL_law_222 ?_
  refine va_sld hx hb hX hbl hbA hI.2.2 h3 dL_law_223 ?_
  refine lv_aload_n hx hb dL_law_224 rfl (lv_at hl 0 rfl) ?_
  refine lv_iload_n hx hb dL_law_225 rfl (lv_at hl 3 rfl) ?_
  refine lv_iconst (v := 4) hx hb dL_law_226 (by decide) ?_
  refine lv_iadd hx hb dL_law_227 ?_
  refine va_sld hx hb hX hbl hbA hI.2.2 h4 dL_law_228 ?_
  have hI := IW_swap2 (L := pcC cy A v1 r1) (Y := pcM cy B w q) hI
  refine rw_v S (c_X8_city l D cy B (pcC cy A v1 r1) (lA0 s) w q (xs (x3 + 1).toNatClampNeg) (xs (x3 + 2).toNatClampNeg) (xs (x3 + 3).toNatClampNeg) (xs (x3 + 4).toNatClampNeg) y w1 q1 e2) (cwV 4 hts gL_law_X8_city rfl rfl rfl (by decide +kernel) ⟨Nat.le_of_ble_eq_true rfl, Nat.le_of_ble_eq_true rfl⟩) hI hK hN (ci := 7) rfl atM_0 rfl rfl hl.1 rfl (Nat.le_of_ble_eq_true rfl) dL_law_229 ⟨Nat.le_of_ble_eq_true rfl, Nat.le_of_ble_eq_true rfl⟩ (fun H locs hI => ?_)
  have hI := IW_swap2 (L := pcM cy B w1 q1) (Y := pcC cy A v1 r1) hI
  refine lv_icmp_eq (tgt := 1179) hx hb dL_law_232 (by decide) (fun _ => ?_) (fun c9 => absurd rfl c9)
  exact kk v1 r1 w1 q1 H _ ls hI hRl1 hl
set_option maxHeartbeats 4000000 in
set_option maxRecDepth 100000 in
theorem law_c1 {p : Program} {l : Launch} {e : Env} {s : State} {m : MethodId} {args : Array Value} {below : List Frame} {meth : Method} {c : Code} {D : va_G} {cy : Nat → ClassId} {A B : Nat → Nat} {b L : Nat} {xs : Nat → Int32} {Q : State → Prop} {Rl : RLT} (C : LCx p s m args c D cy b L xs) (hop : Op1 Rl) {v : V1} {r : V2} {w : V1} {q : V2} {H : Heap} {locs : List Loc} {ls : Array Slot} (hI : IW D (pcC cy A v r ++ pcM cy B w q) (lA0 s) s.heap H locs) (hRl : Rl v r w q) (x3 : Int32) (h1 : vp_in (x3 + 1) L) (h2 : vp_in (x3 + 2) L) (h3 : vp_in (x3 + 3) L) (h4 : vp_in (x3 + 4) L) (h5 : vp_in (x3 + 5) L) (hl : lv_has ls 4 [(0, .ref b), (1, .ref (A 0)), (2, .ref (B 0)), (3, .int x3)]) (kk : ∀ (v : V1) (r : V2) (w : V1) (q : V2) (H : Heap) (locs : List Loc) (ls : Array Slot), IW D (pcC cy A v r ++ pcM cy B w q) (lA0 s) s.heap H locs → Rl v r w q → lv_has ls 4 [(0, .ref b), (1, .ref (A 0)), (2, .ref (B 0)), (3, .int x3)] → W p l e room_1 s m args below meth c H locs 46 716 Q (F0 m 1179 ls [])) : W p l e room_1 s m args below meth c H locs 46 716 Q (F0 m 237 ls []) := by
  obtain ⟨hx, hb, hml, hown, hts, hX, hbl, hK, hN⟩ := C
  have hbA : ¬ (lA0 s) b := Nat.not_le.mpr hbl
  have S : CallFix p m c cL_law 4 s args wsL_law RL := ⟨hx, hb, hml, hown, hts⟩
  obtain ⟨y, e1, e2⟩ := hop v r w q (xs (x3 + 1).toNatClampNeg) (xs (x3 + 2).toNatClampNeg) hRl
  refine lv_aload_n hx hb dL_law_237 rfl (lv_at hl 1 rfl) ?_
  refine lv_aload_n hx hb dL_law_238 rfl (lv_at hl 0 rfl) ?_
  refine lv_iload_n hx hb dL_law_239 rfl (lv_at hl 3 rfl) ?_
  refine lv_iconst (v := 1) hx hb dL_law_240 (by decide) ?_
  refine lv_iadd hx hb dL_law_241 ?_
  refine va_sld hx hb hX hbl hbA hI.2.2 h1 dL_law_242 ?_
  refine lv_aload_n hx hb dL_law_243 rfl (lv_at hl 0 rfl) ?_
  refine lv_iload_n hx hb dL_law_244 rfl (lv_at hl 3 rfl) ?_
  refine lv_iconst (v := 2) hx hb dL_law_245 (by decide) ?_
  refine lv_iadd hx hb dL_law_246 ?_
  refine va_sld hx hb hX hbl hbA hI.2.2 h2 dL_law_247 ?_
  refine ro_v S (c_X7_ofArticle l D cy A (pcM cy B w q) (lA0 s) v r (xs (x3 + 1).toNatClampNeg) (xs (x3 + 2).toNatClampNeg) y e1) (cwV 2 hts gL_law_X7_ofArticle rfl rfl rfl (by decide +kernel) ⟨Nat.le_of_ble_eq_true rfl, Nat.le_of_ble_eq_true rfl⟩) hI hK hN (ci := 6) rfl atC_0 rfl rfl hl.1 rfl (Nat.le_of_ble_eq_true rfl) dL_law_248 ⟨Nat.le_of_ble_eq_true rfl, Nat.le_of_ble_eq_true rfl⟩ ?_
  refine lv_aload_n hx hb dL_law_251 rfl (lv_at hl 2 rfl) ?_
  refine lv_aload_n hx hb dL_law_252 rfl (lv_at hl 0 rfl) ?_
  refine lv_iload_n hx hb dL_law_253 rfl (lv_at hl 3 rfl) ?_
  refine lv_iconst (v := 1) hx hb dL_law_254 (by decide) ?_
  refine lv_iadd hx hb dL_law_255 ?_
  refine va_sld hx hb hX hbl hbA hI.2.2 h1 dL_law_256 ?_
  refine lv_aload_n hx hb dL_law_257 rfl (lv_at hl 0 rfl) ?_
  refine lv_iload_n hx hb dL_law_258 rfl (lv_at hl 3 rfl) ?_
  refine lv_iconst (v := 2) hx hb dL_law_259 (by decide) ?_
  refine lv_iadd hx hb dL_law_260 ?_
  refine va_sld hx hb hX hbl hbA hI.2.2 h2 dL_law_261 ?_
  have hI := IW_swap2 (L := pcC cy A v r) (Y := pcM cy B w q) hI
  refine ro_v S (c_X8_ofArticle l D cy B (pcC cy A v r) (lA0 s) w q (xs (x3 + 1).toNatClampNeg) (xs (x3 + 2).toNatClampNeg) y e2) (cwV 2 hts gL_law_X8_ofArticle rfl rfl rfl (by decide +kernel) ⟨Nat.le_of_ble_eq_true rfl, Nat.le_of_ble_eq_true rfl⟩) hI hK hN (ci := 7) rfl atM_0 rfl rfl hl.1 rfl (Nat.le_of_ble_eq_true rfl) dL_law_262 ⟨Nat.le_of_ble_eq_true rfl, Nat.le_of_ble_eq_true rfl⟩ ?_
  have hI := IW_swap2 (L := pcM cy B w q) (Y := pcC cy A v r) hI
  refine lv_icmp_eq (tgt := 1179) hx hb dL_law_265 (by decide) (fun _ => ?_) (fun c9 => absurd rfl c9)
  exact kk v r w q H _ ls hI hRl hl
set_option maxHeartbeats 4000000 in
set_option maxRecDepth 100000 in
theorem law_c2 {p : Program} {l : Launch} {e : Env} {s : State} {m : MethodId} {args : Array Value} {below : List Frame} {meth : Method} {c : Code} {D : va_G} {cy : Nat → ClassId} {A B : Nat → Nat} {b L : Nat} {xs : Nat → Int32} {Q : State → Prop} {Rl : RLT} (C : LCx p s m args c D cy b L xs) (hop : Op2 Rl) {v : V1} {r : V2} {w : V1} {q : V2} {H : Heap} {locs : List Loc} {ls : Array Slot} (hI : IW D (pcC cy A v r ++ pcM cy B w q) (lA0 s) s.heap H locs) (hRl : Rl v r w q) (x3 : Int32) (h1 : vp_in (x3 + 1) L) (h2 : vp_in (x3 + 2) L) (h3 : vp_in (x3 + 3) L) (h4 : vp_in (x3 + 4) L) (h5 : vp_in (x3 + 5) L) (hl : lv_has ls 4 [(0, .ref b), (1, .ref (A 0)), (2, .ref (B 0)), (3, .int x3)]) (kk : ∀ (v : V1) (r : V2) (w : V1) (q : V2) (H : Heap) (locs : List Loc) (ls : Array Slot), IW D (pcC cy A v r ++ pcM cy B w q) (lA0 s) s.heap H locs → Rl v r w q → lv_has ls 4 [(0, .ref b), (1, .ref (A 0)), (2, .ref (B 0)), (3, .int x3)] → W p l e room_1 s m args below meth c H locs 46 716 Q (F0 m 1179 ls [])) : W p l e room_1 s m args below meth c H locs 46 716 Q (F0 m 270 ls []) := by
  obtain ⟨hx, hb, hml, hown, hts, hX, hbl, hK, hN⟩ := C
  have hbA : ¬ (lA0 s) b := Nat.not_le.mpr hbl
  have S : CallFix p m c cL_law 4 s args wsL_law RL := ⟨hx, hb, hml, hown, hts⟩
  obtain ⟨y, e1, e2⟩ := hop v r w q (xs (x3 + 1).toNatClampNeg) hRl
  refine lv_aload_n hx hb dL_law_270 rfl (lv_at hl 1 rfl) ?_
  refine lv_aload_n hx hb dL_law_271 rfl (lv_at hl 0 rfl) ?_
  refine lv_iload_n hx hb dL_law_272 rfl (lv_at hl 3 rfl) ?_
  refine lv_iconst (v := 1) hx hb dL_law_273 (by decide) ?_
  refine lv_iadd hx hb dL_law_274 ?_
  refine va_sld hx hb hX hbl hbA hI.2.2 h1 dL_law_275 ?_
  refine ro_v S (c_X7_space l D cy A (pcM cy B w q) (lA0 s) v r (xs (x3 + 1).toNatClampNeg) y e1) (cwV 1 hts gL_law_X7_space rfl rfl rfl (by decide +kernel) ⟨Nat.le_of_ble_eq_true rfl, Nat.le_of_ble_eq_true rfl⟩) hI hK hN (ci := 6) rfl atC_0 rfl rfl hl.1 rfl (Nat.le_of_ble_eq_true rfl) dL_law_276 ⟨Nat.le_of_ble_eq_true rfl, Nat.le_of_ble_eq_true rfl⟩ ?_
  refine lv_aload_n hx hb dL_law_279 rfl (lv_at hl 2 rfl) ?_
  refine lv_aload_n hx hb dL_law_280 rfl (lv_at hl 0 rfl) ?_
  refine lv_iload_n hx hb dL_law_281 rfl (lv_at hl 3 rfl) ?_
  refine lv_iconst (v := 1) hx hb dL_law_282 (by decide) ?_
  refine lv_iadd hx hb dL_law_283 ?_
  refine va_sld hx hb hX hbl hbA hI.2.2 h1 dL_law_284 ?_
  have hI := IW_swap2 (L := pcC cy A v r) (Y := pcM cy B w q) hI
  refine ro_v S (c_X8_space l D cy B (pcC cy A v r) (lA0 s) w q (xs (x3 + 1).toNatClampNeg) y e2) (cwV 1 hts gL_law_X8_space rfl rfl rfl (by decide +kernel) ⟨Nat.le_of_ble_eq_true rfl, Nat.le_of_ble_eq_true rfl⟩) hI hK hN (ci := 7) rfl atM_0 rfl rfl hl.1 rfl (Nat.le_of_ble_eq_true rfl) dL_law_285 ⟨Nat.le_of_ble_eq_true rfl, Nat.le_of_ble_eq_true rfl⟩ ?_
  have hI := IW_swap2 (L := pcM cy B w q) (Y := pcC cy A v r) hI
  refine lv_icmp_eq (tgt := 1179) hx hb dL_law_288 (by decide) (fun _ => ?_) (fun c9 => absurd rfl c9)
  exact kk v r w q H _ ls hI hRl hl
set_option maxHeartbeats 4000000 in
set_option maxRecDepth 100000 in
theorem law_c3 {p : Program} {l : Launch} {e : Env} {s : State} {m : MethodId} {args : Array Value} {below : List Frame} {meth : Method} {c : Code} {D : va_G} {cy : Nat → ClassId} {A B : Nat → Nat} {b L : Nat} {xs : Nat → Int32} {Q : State → Prop} {Rl : RLT} (C : LCx p s m args c D cy b L xs) (hop : Op3 Rl) {v : V1} {r : V2} {w : V1} {q : V2} {H : Heap} {locs : List Loc} {ls : Array Slot} (hI : IW D (pcC cy A v r ++ pcM cy B w q) (lA0 s) s.heap H locs) (hRl : Rl v r w q) (x3 : Int32) (h1 : vp_in (x3 + 1) L) (h2 : vp_in (x3 + 2) L) (h3 : vp_in (x3 + 3) L) (h4 : vp_in (x3 + 4) L) (h5 : vp_in (x3 + 5) L) (hl : lv_has ls 4 [(0, .ref b), (1, .ref (A 0)), (2, .ref (B 0)), (3, .int x3)]) (kk : ∀ (v : V1) (r : V2) (w : V1) (q : V2) (H : Heap) (locs : List Loc) (ls : Array Slot), IW D (pcC cy A v r ++ pcM cy B w q) (lA0 s) s.heap H locs → Rl v r w q → lv_has ls 4 [(0, .ref b), (1, .ref (A 0)), (2, .ref (B 0)), (3, .int x3)] → W p l e room_1 s m args below meth c H locs 46 716 Q (F0 m 1179 ls [])) : W p l e room_1 s m args below meth c H locs 46 716 Q (F0 m 293 ls []) := by
  obtain ⟨hx, hb, hml, hown, hts, hX, hbl, hK, hN⟩ := C
  have hbA : ¬ (lA0 s) b := Nat.not_le.mpr hbl
  have S : CallFix p m c cL_law 4 s args wsL_law RL := ⟨hx, hb, hml, hown, hts⟩
  obtain ⟨y, v1, r1, w1, q1, e1, e2, hRl1⟩ := hop v r w q (xs (x3 + 1).toNatClampNeg) (xs (x3 + 2).toNatClampNeg) hRl
  refine lv_aload_n hx hb dL_law_293 rfl (lv_at hl 1 rfl) ?_
  refine lv_aload_n hx hb dL_law_294 rfl (lv_at hl 0 rfl) ?_
  refine lv_iload_n hx hb dL_law_295 rfl (lv_at hl 3 rfl) ?_
  refine lv_iconst (v := 1) hx hb dL_law_296 (by decide) ?_
  refine lv_iadd hx hb dL_law_297 ?_
  refine va_sld hx hb hX hbl hbA hI.2.2 h1 dL_law_298 ?_
  refine lv_aload_n hx hb dL_law_299 rfl (lv_at hl 0 rfl) ?_
  refine lv_iload_n hx hb dL_law_300 rfl (lv_at hl 3 rfl) ?_
  refine lv_iconst (v := 2) hx hb dL_law_301 (by decide) ?_
  refine lv_iadd hx hb dL_law_302 ?_
  refine va_sld hx hb hX hbl hbA hI.2.2 h2 dL_law_303 ?_
  refine rw_v S (c_X7_cheer l D cy A (pcM cy B w q) (lA0 s) v r (xs (x3 + 1).toNatClampNeg) (xs (x3 + 2).toNatClampNeg) y v1 r1 e1) (cwV 2 hts gL_law_X7_cheer rfl rfl rfl (by decide +kernel) ⟨Nat.le_of_ble_eq_true rfl, Nat.le_of_ble_eq_true rfl⟩) hI hK hN (ci := 6) rfl atC_0 rfl rfl hl.1 rfl (Nat.le_of_ble_eq_true rfl) dL_law_304 ⟨Nat.le_of_ble_eq_true rfl, Nat.le_of_ble_eq_true rfl⟩ (fun H locs hI => ?_)
  refine lv_aload_n hx hb dL_law_307 rfl (lv_at hl 2 rfl) ?_
  refine lv_aload_n hx hb dL_law_308 rfl (lv_at hl 0 rfl) ?_
  refine lv_iload_n hx hb dL_law_309 rfl (lv_at hl 3 rfl) ?_
  refine lv_iconst (v := 1) hx hb dL_law_310 (by decide) ?_
  refine lv_iadd hx hb dL_law_311 ?_
  refine va_sld hx hb hX hbl hbA hI.2.2 h1 dL_law_312 ?_
  refine lv_aload_n hx hb dL_law_313 rfl (lv_at hl 0 rfl) ?_
  refine lv_iload_n hx hb dL_law_314 rfl (lv_at hl 3 rfl) ?_
  refine lv_iconst (v := 2) hx hb dL_law_315 (by decide) ?_
  refine lv_iadd hx hb dL_law_316 ?_
  refine va_sld hx hb hX hbl hbA hI.2.2 h2 dL_law_317 ?_
  have hI := IW_swap2 (L := pcC cy A v1 r1) (Y := pcM cy B w q) hI
  refine rw_v S (c_X8_cheer l D cy B (pcC cy A v1 r1) (lA0 s) w q (xs (x3 + 1).toNatClampNeg) (xs (x3 + 2).toNatClampNeg) y w1 q1 e2) (cwV 2 hts gL_law_X8_cheer rfl rfl rfl (by decide +kernel) ⟨Nat.le_of_ble_eq_true rfl, Nat.le_of_ble_eq_true rfl⟩) hI hK hN (ci := 7) rfl atM_0 rfl rfl hl.1 rfl (Nat.le_of_ble_eq_true rfl) dL_law_318 ⟨Nat.le_of_ble_eq_true rfl, Nat.le_of_ble_eq_true rfl⟩ (fun H locs hI => ?_)
  have hI := IW_swap2 (L := pcM cy B w1 q1) (Y := pcC cy A v1 r1) hI
  refine lv_icmp_eq (tgt := 1179) hx hb dL_law_321 (by decide) (fun _ => ?_) (fun c9 => absurd rfl c9)
  exact kk v1 r1 w1 q1 H _ ls hI hRl1 hl
set_option maxHeartbeats 4000000 in
set_option maxRecDepth 100000 in
theorem law_c4 {p : Program} {l : Launch} {e : Env} {s : State} {m : MethodId} {args : Array Value} {below : List Frame} {meth : Method} {c : Code} {D : va_G} {cy : Nat → ClassId} {A B : Nat → Nat} {b L : Nat} {xs : Nat → Int32} {Q : State → Prop} {Rl : RLT} (C : LCx p s m args c D cy b L xs) (hop : Op4 Rl) {v : V1} {r : V2} {w : V1} {q : V2} {H : Heap} {locs : List Loc} {ls : Array Slot} (hI : IW D (pcC cy A v r ++ pcM cy B w q) (lA0 s) s.heap H locs) (hRl : Rl v r w q) (x3 : Int32) (h1 : vp_in (x3 + 1) L) (h2 : vp_in (x3 + 2) L) (h3 : vp_in (x3 + 3) L) (h4 : vp_in (x3 + 4) L) (h5 : vp_in (x3 + 5) L) (hl : lv_has ls 4 [(0, .ref b), (1, .ref (A 0)), (2, .ref (B 0)), (3, .int x3)]) (kk : ∀ (v : V1) (r : V2) (w : V1) (q : V2) (H : Heap) (locs : List Loc) (ls : Array Slot), IW D (pcC cy A v r ++ pcM cy B w q) (lA0 s) s.heap H locs → Rl v r w q → lv_has ls 4 [(0, .ref b), (1, .ref (A 0)), (2, .ref (B 0)), (3, .int x3)] → W p l e room_1 s m args below meth c H locs 46 716 Q (F0 m 1179 ls [])) : W p l e room_1 s m args below meth c H locs 46 716 Q (F0 m 326 ls []) := by
  obtain ⟨hx, hb, hml, hown, hts, hX, hbl, hK, hN⟩ := C
  have hbA : ¬ (lA0 s) b := Nat.not_le.mpr hbl
  have S : CallFix p m c cL_law 4 s args wsL_law RL := ⟨hx, hb, hml, hown, hts⟩
  obtain ⟨y, v1, r1, w1, q1, e1, e2, hRl1⟩ := hop v r w q (xs (x3 + 1).toNatClampNeg) (xs (x3 + 2).toNatClampNeg) hRl
  refine lv_aload_n hx hb dL_law_326 rfl (lv_at hl 1 rfl) ?_
  refine lv_aload_n hx hb dL_law_327 rfl (lv_at hl 0 rfl) ?_
  refine lv_iload_n hx hb dL_law_328 rfl (lv_at hl 3 rfl) ?_
  refine lv_iconst (v := 1) hx hb dL_law_329 (by decide) ?_
  refine lv_iadd hx hb dL_law_330 ?_
  refine va_sld hx hb hX hbl hbA hI.2.2 h1 dL_law_331 ?_
  refine lv_aload_n hx hb dL_law_332 rfl (lv_at hl 0 rfl) ?_
  refine lv_iload_n hx hb dL_law_333 rfl (lv_at hl 3 rfl) ?_
  refine lv_iconst (v := 2) hx hb dL_law_334 (by decide) ?_
  refine lv_iadd hx hb dL_law_335 ?_
  refine va_sld hx hb hX hbl hbA hI.2.2 h2 dL_law_336 ?_
  refine rw_v S (c_X7_miss l D cy A (pcM cy B w q) (lA0 s) v r (xs (x3 + 1).toNatClampNeg) (xs (x3 + 2).toNatClampNeg) y v1 r1 e1) (cwV 2 hts gL_law_X7_miss rfl rfl rfl (by decide +kernel) ⟨Nat.le_of_ble_eq_true rfl, Nat.le_of_ble_eq_true rfl⟩) hI hK hN (ci := 6) rfl atC_0 rfl rfl hl.1 rfl (Nat.le_of_ble_eq_true rfl) dL_law_337 ⟨Nat.le_of_ble_eq_true rfl, Nat.le_of_ble_eq_true rfl⟩ (fun H locs hI => ?_)
  refine lv_aload_n hx hb dL_law_340 rfl (lv_at hl 2 rfl) ?_
  refine lv_aload_n hx hb dL_law_341 rfl (lv_at hl 0 rfl) ?_
  refine lv_iload_n hx hb dL_law_342 rfl (lv_at hl 3 rfl) ?_
  refine lv_iconst (v := 1) hx hb dL_law_343 (by decide) ?_
  refine lv_iadd hx hb dL_law_344 ?_
  refine va_sld hx hb hX hbl hbA hI.2.2 h1 dL_law_345 ?_
  refine lv_aload_n hx hb dL_law_346 rfl (lv_at hl 0 rfl) ?_
  refine lv_iload_n hx hb dL_law_347 rfl (lv_at hl 3 rfl) ?_
  refine lv_iconst (v := 2) hx hb dL_law_348 (by decide) ?_
  refine lv_iadd hx hb dL_law_349 ?_
  refine va_sld hx hb hX hbl hbA hI.2.2 h2 dL_law_350 ?_
  have hI := IW_swap2 (L := pcC cy A v1 r1) (Y := pcM cy B w q) hI
  refine rw_v S (c_X8_miss l D cy B (pcC cy A v1 r1) (lA0 s) w q (xs (x3 + 1).toNatClampNeg) (xs (x3 + 2).toNatClampNeg) y w1 q1 e2) (cwV 2 hts gL_law_X8_miss rfl rfl rfl (by decide +kernel) ⟨Nat.le_of_ble_eq_true rfl, Nat.le_of_ble_eq_true rfl⟩) hI hK hN (ci := 7) rfl atM_0 rfl rfl hl.1 rfl (Nat.le_of_ble_eq_true rfl) dL_law_351 ⟨Nat.le_of_ble_eq_true rfl, Nat.le_of_ble_eq_true rfl⟩ (fun H locs hI => ?_)
  have hI := IW_swap2 (L := pcM cy B w1 q1) (Y := pcC cy A v1 r1) hI
  refine lv_icmp_eq (tgt := 1179) hx hb dL_law_354 (by decide) (fun _ => ?_) (fun c9 => absurd rfl c9)
  exact kk v1 r1 w1 q1 H _ ls hI hRl1 hl
set_option maxHeartbeats 4000000 in
set_option maxRecDepth 100000 in
theorem law_c5 {p : Program} {l : Launch} {e : Env} {s : State} {m : MethodId} {args : Array Value} {below : List Frame} {meth : Method} {c : Code} {D : va_G} {cy : Nat → ClassId} {A B : Nat → Nat} {b L : Nat} {xs : Nat → Int32} {Q : State → Prop} {Rl : RLT} (C : LCx p s m args c D cy b L xs) (hop : Op5 Rl) {v : V1} {r : V2} {w : V1} {q : V2} {H : Heap} {locs : List Loc} {ls : Array Slot} (hI : IW D (pcC cy A v r ++ pcM cy B w q) (lA0 s) s.heap H locs) (hRl : Rl v r w q) (x3 : Int32) (h1 : vp_in (x3 + 1) L) (h2 : vp_in (x3 + 2) L) (h3 : vp_in (x3 + 3) L) (h4 : vp_in (x3 + 4) L) (h5 : vp_in (x3 + 5) L) (hl : lv_has ls 4 [(0, .ref b), (1, .ref (A 0)), (2, .ref (B 0)), (3, .int x3)]) (kk : ∀ (v : V1) (r : V2) (w : V1) (q : V2) (H : Heap) (locs : List Loc) (ls : Array Slot), IW D (pcC cy A v r ++ pcM cy B w q) (lA0 s) s.heap H locs → Rl v r w q → lv_has ls 4 [(0, .ref b), (1, .ref (A 0)), (2, .ref (B 0)), (3, .int x3)] → W p l e room_1 s m args below meth c H locs 46 716 Q (F0 m 1179 ls [])) : W p l e room_1 s m args below meth c H locs 46 716 Q (F0 m 359 ls []) := by
  obtain ⟨hx, hb, hml, hown, hts, hX, hbl, hK, hN⟩ := C
  have hbA : ¬ (lA0 s) b := Nat.not_le.mpr hbl
  have S : CallFix p m c cL_law 4 s args wsL_law RL := ⟨hx, hb, hml, hown, hts⟩
  obtain ⟨y, v1, r1, w1, q1, e1, e2, hRl1⟩ := hop v r w q (xs (x3 + 1).toNatClampNeg) (xs (x3 + 2).toNatClampNeg) hRl
  refine lv_aload_n hx hb dL_law_359 rfl (lv_at hl 1 rfl) ?_
  refine lv_aload_n hx hb dL_law_360 rfl (lv_at hl 0 rfl) ?_
  refine lv_iload_n hx hb dL_law_361 rfl (lv_at hl 3 rfl) ?_
  refine lv_iconst (v := 1) hx hb dL_law_362 (by decide) ?_
  refine lv_iadd hx hb dL_law_363 ?_
  refine va_sld hx hb hX hbl hbA hI.2.2 h1 dL_law_364 ?_
  refine lv_aload_n hx hb dL_law_365 rfl (lv_at hl 0 rfl) ?_
  refine lv_iload_n hx hb dL_law_366 rfl (lv_at hl 3 rfl) ?_
  refine lv_iconst (v := 2) hx hb dL_law_367 (by decide) ?_
  refine lv_iadd hx hb dL_law_368 ?_
  refine va_sld hx hb hX hbl hbA hI.2.2 h2 dL_law_369 ?_
  refine rw_v S (c_X7_widen l D cy A (pcM cy B w q) (lA0 s) v r (xs (x3 + 1).toNatClampNeg) (xs (x3 + 2).toNatClampNeg) y v1 r1 e1) (cwV 2 hts gL_law_X7_widen rfl rfl rfl (by decide +kernel) ⟨Nat.le_of_ble_eq_true rfl, Nat.le_of_ble_eq_true rfl⟩) hI hK hN (ci := 6) rfl atC_0 rfl rfl hl.1 rfl (Nat.le_of_ble_eq_true rfl) dL_law_370 ⟨Nat.le_of_ble_eq_true rfl, Nat.le_of_ble_eq_true rfl⟩ (fun H locs hI => ?_)
  refine lv_aload_n hx hb dL_law_373 rfl (lv_at hl 2 rfl) ?_
  refine lv_aload_n hx hb dL_law_374 rfl (lv_at hl 0 rfl) ?_
  refine lv_iload_n hx hb dL_law_375 rfl (lv_at hl 3 rfl) ?_
  refine lv_iconst (v := 1) hx hb dL_law_376 (by decide) ?_
  refine lv_iadd hx hb dL_law_377 ?_
  refine va_sld hx hb hX hbl hbA hI.2.2 h1 dL_law_378 ?_
  refine lv_aload_n hx hb dL_law_379 rfl (lv_at hl 0 rfl) ?_
  refine lv_iload_n hx hb dL_law_380 rfl (lv_at hl 3 rfl) ?_
  refine lv_iconst (v := 2) hx hb dL_law_381 (by decide) ?_
  refine lv_iadd hx hb dL_law_382 ?_
  refine va_sld hx hb hX hbl hbA hI.2.2 h2 dL_law_383 ?_
  have hI := IW_swap2 (L := pcC cy A v1 r1) (Y := pcM cy B w q) hI
  refine rw_v S (c_X8_widen l D cy B (pcC cy A v1 r1) (lA0 s) w q (xs (x3 + 1).toNatClampNeg) (xs (x3 + 2).toNatClampNeg) y w1 q1 e2) (cwV 2 hts gL_law_X8_widen rfl rfl rfl (by decide +kernel) ⟨Nat.le_of_ble_eq_true rfl, Nat.le_of_ble_eq_true rfl⟩) hI hK hN (ci := 7) rfl atM_0 rfl rfl hl.1 rfl (Nat.le_of_ble_eq_true rfl) dL_law_384 ⟨Nat.le_of_ble_eq_true rfl, Nat.le_of_ble_eq_true rfl⟩ (fun H locs hI => ?_)
  have hI := IW_swap2 (L := pcM cy B w1 q1) (Y := pcC cy A v1 r1) hI
  refine lv_icmp_eq (tgt := 1179) hx hb dL_law_387 (by decide) (fun _ => ?_) (fun c9 => absurd rfl c9)
  exact kk v1 r1 w1 q1 H _ ls hI hRl1 hl
set_option maxHeartbeats 4000000 in
set_option maxRecDepth 100000 in
theorem law_c6 {p : Program} {l : Launch} {e : Env} {s : State} {m : MethodId} {args : Array Value} {below : List Frame} {meth : Method} {c : Code} {D : va_G} {cy : Nat → ClassId} {A B : Nat → Nat} {b L : Nat} {xs : Nat → Int32} {Q : State → Prop} {Rl : RLT} (C : LCx p s m args c D cy b L xs) (hop : Op6 Rl) {v : V1} {r : V2} {w : V1} {q : V2} {H : Heap} {locs : List Loc} {ls : Array Slot} (hI : IW D (pcC cy A v r ++ pcM cy B w q) (lA0 s) s.heap H locs) (hRl : Rl v r w q) (x3 : Int32) (h1 : vp_in (x3 + 1) L) (h2 : vp_in (x3 + 2) L) (h3 : vp_in (x3 + 3) L) (h4 : vp_in (x3 + 4) L) (h5 : vp_in (x3 + 5) L) (hl : lv_has ls 4 [(0, .ref b), (1, .ref (A 0)), (2, .ref (B 0)), (3, .int x3)]) (kk : ∀ (v : V1) (r : V2) (w : V1) (q : V2) (H : Heap) (locs : List Loc) (ls : Array Slot), IW D (pcC cy A v r ++ pcM cy B w q) (lA0 s) s.heap H locs → Rl v r w q → lv_has ls 4 [(0, .ref b), (1, .ref (A 0)), (2, .ref (B 0)), (3, .int x3)] → W p l e room_1 s m args below meth c H locs 46 716 Q (F0 m 1179 ls [])) : W p l e room_1 s m args below meth c H locs 46 716 Q (F0 m 392 ls []) := by
  obtain ⟨hx, hb, hml, hown, hts, hX, hbl, hK, hN⟩ := C
  have hbA : ¬ (lA0 s) b := Nat.not_le.mpr hbl
  have S : CallFix p m c cL_law 4 s args wsL_law RL := ⟨hx, hb, hml, hown, hts⟩
  obtain ⟨y, v1, r1, w1, q1, e1, e2, hRl1⟩ := hop v r w q (xs (x3 + 1).toNatClampNeg) hRl
  refine lv_aload_n hx hb dL_law_392 rfl (lv_at hl 1 rfl) ?_
  refine lv_aload_n hx hb dL_law_393 rfl (lv_at hl 0 rfl) ?_
  refine lv_iload_n hx hb dL_law_394 rfl (lv_at hl 3 rfl) ?_
  refine lv_iconst (v := 1) hx hb dL_law_395 (by decide) ?_
  refine lv_iadd hx hb dL_law_396 ?_
  refine va_sld hx hb hX hbl hbA hI.2.2 h1 dL_law_397 ?_
  refine rw_v S (c_X7_shift l D cy A (pcM cy B w q) (lA0 s) v r (xs (x3 + 1).toNatClampNeg) y v1 r1 e1) (cwV 1 hts gL_law_X7_shift rfl rfl rfl (by decide +kernel) ⟨Nat.le_of_ble_eq_true rfl, Nat.le_of_ble_eq_true rfl⟩) hI hK hN (ci := 6) rfl atC_0 rfl rfl hl.1 rfl (Nat.le_of_ble_eq_true rfl) dL_law_398 ⟨Nat.le_of_ble_eq_true rfl, Nat.le_of_ble_eq_true rfl⟩ (fun H locs hI => ?_)
  refine lv_aload_n hx hb dL_law_401 rfl (lv_at hl 2 rfl) ?_
  refine lv_aload_n hx hb dL_law_402 rfl (lv_at hl 0 rfl) ?_
  refine lv_iload_n hx hb dL_law_403 rfl (lv_at hl 3 rfl) ?_
  refine lv_iconst (v := 1) hx hb dL_law_404 (by decide) ?_
  refine lv_iadd hx hb dL_law_405 ?_
  refine va_sld hx hb hX hbl hbA hI.2.2 h1 dL_law_406 ?_
  have hI := IW_swap2 (L := pcC cy A v1 r1) (Y := pcM cy B w q) hI
  refine rw_v S (c_X8_shift l D cy B (pcC cy A v1 r1) (lA0 s) w q (xs (x3 + 1).toNatClampNeg) y w1 q1 e2) (cwV 1 hts gL_law_X8_shift rfl rfl rfl (by decide +kernel) ⟨Nat.le_of_ble_eq_true rfl, Nat.le_of_ble_eq_true rfl⟩) hI hK hN (ci := 7) rfl atM_0 rfl rfl hl.1 rfl (Nat.le_of_ble_eq_true rfl) dL_law_407 ⟨Nat.le_of_ble_eq_true rfl, Nat.le_of_ble_eq_true rfl⟩ (fun H locs hI => ?_)
  have hI := IW_swap2 (L := pcM cy B w1 q1) (Y := pcC cy A v1 r1) hI
  refine lv_icmp_eq (tgt := 1179) hx hb dL_law_410 (by decide) (fun _ => ?_) (fun c9 => absurd rfl c9)
  exact kk v1 r1 w1 q1 H _ ls hI hRl1 hl
set_option maxHeartbeats 4000000 in
set_option maxRecDepth 100000 in
theorem law_c7 {p : Program} {l : Launch} {e : Env} {s : State} {m : MethodId} {args : Array Value} {below : List Frame} {meth : Method} {c : Code} {D : va_G} {cy : Nat → ClassId} {A B : Nat → Nat} {b L : Nat} {xs : Nat → Int32} {Q : State → Prop} {Rl : RLT} (C : LCx p s m args c D cy b L xs) (hop : Op7 Rl) {v : V1} {r : V2} {w : V1} {q : V2} {H : Heap} {locs : List Loc} {ls : Array Slot} (hI : IW D (pcC cy A v r ++ pcM cy B w q) (lA0 s) s.heap H locs) (hRl : Rl v r w q) (x3 : Int32) (h1 : vp_in (x3 + 1) L) (h2 : vp_in (x3 + 2) L) (h3 : vp_in (x3 + 3) L) (h4 : vp_in (x3 + 4) L) (h5 : vp_in (x3 + 5) L) (hl : lv_has ls 4 [(0, .ref b), (1, .ref (A 0)), (2, .ref (B 0)), (3, .int x3)]) (kk : ∀ (v : V1) (r : V2) (w : V1) (q : V2) (H : Heap) (locs : List Loc) (ls : Array Slot), IW D (pcC cy A v r ++ pcM cy B w q) (lA0 s) s.heap H locs → Rl v r w q → lv_has ls 4 [(0, .ref b), (1, .ref (A 0)), (2, .ref (B 0)), (3, .int x3)] → W p l e room_1 s m args below meth c H locs 46 716 Q (F0 m 1179 ls [])) : W p l e room_1 s m args below meth c H locs 46 716 Q (F0 m 415 ls []) := by
  obtain ⟨hx, hb, hml, hown, hts, hX, hbl, hK, hN⟩ := C
  have hbA : ¬ (lA0 s) b := Nat.not_le.mpr hbl
  have S : CallFix p m c cL_law 4 s args wsL_law RL := ⟨hx, hb, hml, hown, hts⟩
  obtain ⟨y, e1, e2⟩ := hop v r w q hRl
  refine lv_aload_n hx hb dL_law_415 rfl (lv_at hl 1 rfl) ?_
  refine ro_v S (c_X7_there l D cy A (pcM cy B w q) (lA0 s) v r y e1) (cwV 0 hts gL_law_X7_there rfl rfl rfl (by decide +kernel) ⟨Nat.le_of_ble_eq_true rfl, Nat.le_of_ble_eq_true rfl⟩) hI hK hN (ci := 6) rfl atC_0 rfl rfl hl.1 rfl (Nat.le_of_ble_eq_true rfl) dL_law_416 ⟨Nat.le_of_ble_eq_true rfl, Nat.le_of_ble_eq_true rfl⟩ ?_
  refine lv_aload_n hx hb dL_law_419 rfl (lv_at hl 2 rfl) ?_
  have hI := IW_swap2 (L := pcC cy A v r) (Y := pcM cy B w q) hI
  refine ro_v S (c_X8_there l D cy B (pcC cy A v r) (lA0 s) w q y e2) (cwV 0 hts gL_law_X8_there rfl rfl rfl (by decide +kernel) ⟨Nat.le_of_ble_eq_true rfl, Nat.le_of_ble_eq_true rfl⟩) hI hK hN (ci := 7) rfl atM_0 rfl rfl hl.1 rfl (Nat.le_of_ble_eq_true rfl) dL_law_420 ⟨Nat.le_of_ble_eq_true rfl, Nat.le_of_ble_eq_true rfl⟩ ?_
  have hI := IW_swap2 (L := pcM cy B w q) (Y := pcC cy A v r) hI
  refine lv_icmp_eq (tgt := 1179) hx hb dL_law_423 (by decide) (fun _ => ?_) (fun c9 => absurd rfl c9)
  exact kk v r w q H _ ls hI hRl hl
set_option maxHeartbeats 4000000 in
set_option maxRecDepth 100000 in
theorem law_c8 {p : Program} {l : Launch} {e : Env} {s : State} {m : MethodId} {args : Array Value} {below : List Frame} {meth : Method} {c : Code} {D : va_G} {cy : Nat → ClassId} {A B : Nat → Nat} {b L : Nat} {xs : Nat → Int32} {Q : State → Prop} {Rl : RLT} (C : LCx p s m args c D cy b L xs) (hop : Op8 Rl) {v : V1} {r : V2} {w : V1} {q : V2} {H : Heap} {locs : List Loc} {ls : Array Slot} (hI : IW D (pcC cy A v r ++ pcM cy B w q) (lA0 s) s.heap H locs) (hRl : Rl v r w q) (x3 : Int32) (h1 : vp_in (x3 + 1) L) (h2 : vp_in (x3 + 2) L) (h3 : vp_in (x3 + 3) L) (h4 : vp_in (x3 + 4) L) (h5 : vp_in (x3 + 5) L) (hl : lv_has ls 4 [(0, .ref b), (1, .ref (A 0)), (2, .ref (B 0)), (3, .int x3)]) (kk : ∀ (v : V1) (r : V2) (w : V1) (q : V2) (H : Heap) (locs : List Loc) (ls : Array Slot), IW D (pcC cy A v r ++ pcM cy B w q) (lA0 s) s.heap H locs → Rl v r w q → lv_has ls 4 [(0, .ref b), (1, .ref (A 0)), (2, .ref (B 0)), (3, .int x3)] → W p l e room_1 s m args below meth c H locs 46 716 Q (F0 m 1179 ls [])) : W p l e room_1 s m args below meth c H locs 46 716 Q (F0 m 428 ls []) := by
  obtain ⟨hx, hb, hml, hown, hts, hX, hbl, hK, hN⟩ := C
  have hbA : ¬ (lA0 s) b := Nat.not_le.mpr hbl
  have S : CallFix p m c cL_law 4 s args wsL_law RL := ⟨hx, hb, hml, hown, hts⟩
  obtain ⟨y, e1, e2⟩ := hop v r w q (xs (x3 + 1).toNatClampNeg) hRl
  refine lv_aload_n hx hb dL_law_428 rfl (lv_at hl 1 rfl) ?_
  refine lv_aload_n hx hb dL_law_429 rfl (lv_at hl 0 rfl) ?_
  refine lv_iload_n hx hb dL_law_430 rfl (lv_at hl 3 rfl) ?_
  refine lv_iconst (v := 1) hx hb dL_law_431 (by decide) ?_
  refine lv_iadd hx hb dL_law_432 ?_
  refine va_sld hx hb hX hbl hbA hI.2.2 h1 dL_law_433 ?_
  refine ro_v S (c_X7_company l D cy A (pcM cy B w q) (lA0 s) v r (xs (x3 + 1).toNatClampNeg) y e1) (cwV 1 hts gL_law_X7_company rfl rfl rfl (by decide +kernel) ⟨Nat.le_of_ble_eq_true rfl, Nat.le_of_ble_eq_true rfl⟩) hI hK hN (ci := 6) rfl atC_0 rfl rfl hl.1 rfl (Nat.le_of_ble_eq_true rfl) dL_law_434 ⟨Nat.le_of_ble_eq_true rfl, Nat.le_of_ble_eq_true rfl⟩ ?_
  refine lv_aload_n hx hb dL_law_437 rfl (lv_at hl 2 rfl) ?_
  refine lv_aload_n hx hb dL_law_438 rfl (lv_at hl 0 rfl) ?_
  refine lv_iload_n hx hb dL_law_439 rfl (lv_at hl 3 rfl) ?_
  refine lv_iconst (v := 1) hx hb dL_law_440 (by decide) ?_
  refine lv_iadd hx hb dL_law_441 ?_
  refine va_sld hx hb hX hbl hbA hI.2.2 h1 dL_law_442 ?_
  have hI := IW_swap2 (L := pcC cy A v r) (Y := pcM cy B w q) hI
  refine ro_v S (c_X8_company l D cy B (pcC cy A v r) (lA0 s) w q (xs (x3 + 1).toNatClampNeg) y e2) (cwV 1 hts gL_law_X8_company rfl rfl rfl (by decide +kernel) ⟨Nat.le_of_ble_eq_true rfl, Nat.le_of_ble_eq_true rfl⟩) hI hK hN (ci := 7) rfl atM_0 rfl rfl hl.1 rfl (Nat.le_of_ble_eq_true rfl) dL_law_443 ⟨Nat.le_of_ble_eq_true rfl, Nat.le_of_ble_eq_true rfl⟩ ?_
  have hI := IW_swap2 (L := pcM cy B w q) (Y := pcC cy A v r) hI
  refine lv_icmp_eq (tgt := 1179) hx hb dL_law_446 (by decide) (fun _ => ?_) (fun c9 => absurd rfl c9)
  exact kk v r w q H _ ls hI hRl hl
set_option maxHeartbeats 4000000 in
set_option maxRecDepth 100000 in
theorem law_c9 {p : Program} {l : Launch} {e : Env} {s : State} {m : MethodId} {args : Array Value} {below : List Frame} {meth : Method} {c : Code} {D : va_G} {cy : Nat → ClassId} {A B : Nat → Nat} {b L : Nat} {xs : Nat → Int32} {Q : State → Prop} {Rl : RLT} (C : LCx p s m args c D cy b L xs) (hop : Op9 Rl) {v : V1} {r : V2} {w : V1} {q : V2} {H : Heap} {locs : List Loc} {ls : Array Slot} (hI : IW D (pcC cy A v r ++ pcM cy B w q) (lA0 s) s.heap H locs) (hRl : Rl v r w q) (x3 : Int32) (h1 : vp_in (x3 + 1) L) (h2 : vp_in (x3 + 2) L) (h3 : vp_in (x3 + 3) L) (h4 : vp_in (x3 + 4) L) (h5 : vp_in (x3 + 5) L) (hl : lv_has ls 4 [(0, .ref b), (1, .ref (A 0)), (2, .ref (B 0)), (3, .int x3)]) (kk : ∀ (v : V1) (r : V2) (w : V1) (q : V2) (H : Heap) (locs : List Loc) (ls : Array Slot), IW D (pcC cy A v r ++ pcM cy B w q) (lA0 s) s.heap H locs → Rl v r w q → lv_has ls 4 [(0, .ref b), (1, .ref (A 0)), (2, .ref (B 0)), (3, .int x3)] → W p l e room_1 s m args below meth c H locs 46 716 Q (F0 m 1179 ls [])) : W p l e room_1 s m args below meth c H locs 46 716 Q (F0 m 451 ls []) := by
  obtain ⟨hx, hb, hml, hown, hts, hX, hbl, hK, hN⟩ := C
  have hbA : ¬ (lA0 s) b := Nat.not_le.mpr hbl
  have S : CallFix p m c cL_law 4 s args wsL_law RL := ⟨hx, hb, hml, hown, hts⟩
  obtain ⟨y, v1, r1, w1, q1, e1, e2, hRl1⟩ := hop v r w q (xs (x3 + 1).toNatClampNeg) hRl
  refine lv_aload_n hx hb dL_law_451 rfl (lv_at hl 1 rfl) ?_
  refine lv_aload_n hx hb dL_law_452 rfl (lv_at hl 0 rfl) ?_
  refine lv_iload_n hx hb dL_law_453 rfl (lv_at hl 3 rfl) ?_
  refine lv_iconst (v := 1) hx hb dL_law_454 (by decide) ?_
  refine lv_iadd hx hb dL_law_455 ?_
  refine va_sld hx hb hX hbl hbA hI.2.2 h1 dL_law_456 ?_
  refine rw_v S (c_X7_send l D cy A (pcM cy B w q) (lA0 s) v r (xs (x3 + 1).toNatClampNeg) y v1 r1 e1) (cwV 1 hts gL_law_X7_send rfl rfl rfl (by decide +kernel) ⟨Nat.le_of_ble_eq_true rfl, Nat.le_of_ble_eq_true rfl⟩) hI hK hN (ci := 6) rfl atC_0 rfl rfl hl.1 rfl (Nat.le_of_ble_eq_true rfl) dL_law_457 ⟨Nat.le_of_ble_eq_true rfl, Nat.le_of_ble_eq_true rfl⟩ (fun H locs hI => ?_)
  refine lv_aload_n hx hb dL_law_460 rfl (lv_at hl 2 rfl) ?_
  refine lv_aload_n hx hb dL_law_461 rfl (lv_at hl 0 rfl) ?_
  refine lv_iload_n hx hb dL_law_462 rfl (lv_at hl 3 rfl) ?_
  refine lv_iconst (v := 1) hx hb dL_law_463 (by decide) ?_
  refine lv_iadd hx hb dL_law_464 ?_
  refine va_sld hx hb hX hbl hbA hI.2.2 h1 dL_law_465 ?_
  have hI := IW_swap2 (L := pcC cy A v1 r1) (Y := pcM cy B w q) hI
  refine rw_v S (c_X8_send l D cy B (pcC cy A v1 r1) (lA0 s) w q (xs (x3 + 1).toNatClampNeg) y w1 q1 e2) (cwV 1 hts gL_law_X8_send rfl rfl rfl (by decide +kernel) ⟨Nat.le_of_ble_eq_true rfl, Nat.le_of_ble_eq_true rfl⟩) hI hK hN (ci := 7) rfl atM_0 rfl rfl hl.1 rfl (Nat.le_of_ble_eq_true rfl) dL_law_466 ⟨Nat.le_of_ble_eq_true rfl, Nat.le_of_ble_eq_true rfl⟩ (fun H locs hI => ?_)
  have hI := IW_swap2 (L := pcM cy B w1 q1) (Y := pcC cy A v1 r1) hI
  refine lv_icmp_eq (tgt := 1179) hx hb dL_law_469 (by decide) (fun _ => ?_) (fun c9 => absurd rfl c9)
  exact kk v1 r1 w1 q1 H _ ls hI hRl1 hl
set_option maxHeartbeats 4000000 in
set_option maxRecDepth 100000 in
theorem law_c10 {p : Program} {l : Launch} {e : Env} {s : State} {m : MethodId} {args : Array Value} {below : List Frame} {meth : Method} {c : Code} {D : va_G} {cy : Nat → ClassId} {A B : Nat → Nat} {b L : Nat} {xs : Nat → Int32} {Q : State → Prop} {Rl : RLT} (C : LCx p s m args c D cy b L xs) (hop : Op10 Rl) {v : V1} {r : V2} {w : V1} {q : V2} {H : Heap} {locs : List Loc} {ls : Array Slot} (hI : IW D (pcC cy A v r ++ pcM cy B w q) (lA0 s) s.heap H locs) (hRl : Rl v r w q) (x3 : Int32) (h1 : vp_in (x3 + 1) L) (h2 : vp_in (x3 + 2) L) (h3 : vp_in (x3 + 3) L) (h4 : vp_in (x3 + 4) L) (h5 : vp_in (x3 + 5) L) (hl : lv_has ls 4 [(0, .ref b), (1, .ref (A 0)), (2, .ref (B 0)), (3, .int x3)]) (kk : ∀ (v : V1) (r : V2) (w : V1) (q : V2) (H : Heap) (locs : List Loc) (ls : Array Slot), IW D (pcC cy A v r ++ pcM cy B w q) (lA0 s) s.heap H locs → Rl v r w q → lv_has ls 4 [(0, .ref b), (1, .ref (A 0)), (2, .ref (B 0)), (3, .int x3)] → W p l e room_1 s m args below meth c H locs 46 716 Q (F0 m 1179 ls [])) : W p l e room_1 s m args below meth c H locs 46 716 Q (F0 m 474 ls []) := by
  obtain ⟨hx, hb, hml, hown, hts, hX, hbl, hK, hN⟩ := C
  have hbA : ¬ (lA0 s) b := Nat.not_le.mpr hbl
  have S : CallFix p m c cL_law 4 s args wsL_law RL := ⟨hx, hb, hml, hown, hts⟩
  obtain ⟨y, v1, r1, w1, q1, e1, e2, hRl1⟩ := hop v r w q (xs (x3 + 1).toNatClampNeg) hRl
  refine lv_aload_n hx hb dL_law_474 rfl (lv_at hl 1 rfl) ?_
  refine lv_aload_n hx hb dL_law_475 rfl (lv_at hl 0 rfl) ?_
  refine lv_iload_n hx hb dL_law_476 rfl (lv_at hl 3 rfl) ?_
  refine lv_iconst (v := 1) hx hb dL_law_477 (by decide) ?_
  refine lv_iadd hx hb dL_law_478 ?_
  refine va_sld hx hb hX hbl hbA hI.2.2 h1 dL_law_479 ?_
  refine rw_v S (c_X7_call l D cy A (pcM cy B w q) (lA0 s) v r (xs (x3 + 1).toNatClampNeg) y v1 r1 e1) (cwV 1 hts gL_law_X7_call rfl rfl rfl (by decide +kernel) ⟨Nat.le_of_ble_eq_true rfl, Nat.le_of_ble_eq_true rfl⟩) hI hK hN (ci := 6) rfl atC_0 rfl rfl hl.1 rfl (Nat.le_of_ble_eq_true rfl) dL_law_480 ⟨Nat.le_of_ble_eq_true rfl, Nat.le_of_ble_eq_true rfl⟩ (fun H locs hI => ?_)
  refine lv_aload_n hx hb dL_law_483 rfl (lv_at hl 2 rfl) ?_
  refine lv_aload_n hx hb dL_law_484 rfl (lv_at hl 0 rfl) ?_
  refine lv_iload_n hx hb dL_law_485 rfl (lv_at hl 3 rfl) ?_
  refine lv_iconst (v := 1) hx hb dL_law_486 (by decide) ?_
  refine lv_iadd hx hb dL_law_487 ?_
  refine va_sld hx hb hX hbl hbA hI.2.2 h1 dL_law_488 ?_
  have hI := IW_swap2 (L := pcC cy A v1 r1) (Y := pcM cy B w q) hI
  refine rw_v S (c_X8_call l D cy B (pcC cy A v1 r1) (lA0 s) w q (xs (x3 + 1).toNatClampNeg) y w1 q1 e2) (cwV 1 hts gL_law_X8_call rfl rfl rfl (by decide +kernel) ⟨Nat.le_of_ble_eq_true rfl, Nat.le_of_ble_eq_true rfl⟩) hI hK hN (ci := 7) rfl atM_0 rfl rfl hl.1 rfl (Nat.le_of_ble_eq_true rfl) dL_law_489 ⟨Nat.le_of_ble_eq_true rfl, Nat.le_of_ble_eq_true rfl⟩ (fun H locs hI => ?_)
  have hI := IW_swap2 (L := pcM cy B w1 q1) (Y := pcC cy A v1 r1) hI
  refine lv_icmp_eq (tgt := 1179) hx hb dL_law_492 (by decide) (fun _ => ?_) (fun c9 => absurd rfl c9)
  exact kk v1 r1 w1 q1 H _ ls hI hRl1 hl
set_option maxHeartbeats 4000000 in
set_option maxRecDepth 100000 in
theorem law_c11 {p : Program} {l : Launch} {e : Env} {s : State} {m : MethodId} {args : Array Value} {below : List Frame} {meth : Method} {c : Code} {D : va_G} {cy : Nat → ClassId} {A B : Nat → Nat} {b L : Nat} {xs : Nat → Int32} {Q : State → Prop} {Rl : RLT} (C : LCx p s m args c D cy b L xs) (hop : Op11 Rl) {v : V1} {r : V2} {w : V1} {q : V2} {H : Heap} {locs : List Loc} {ls : Array Slot} (hI : IW D (pcC cy A v r ++ pcM cy B w q) (lA0 s) s.heap H locs) (hRl : Rl v r w q) (x3 : Int32) (h1 : vp_in (x3 + 1) L) (h2 : vp_in (x3 + 2) L) (h3 : vp_in (x3 + 3) L) (h4 : vp_in (x3 + 4) L) (h5 : vp_in (x3 + 5) L) (hl : lv_has ls 4 [(0, .ref b), (1, .ref (A 0)), (2, .ref (B 0)), (3, .int x3)]) (kk : ∀ (v : V1) (r : V2) (w : V1) (q : V2) (H : Heap) (locs : List Loc) (ls : Array Slot), IW D (pcC cy A v r ++ pcM cy B w q) (lA0 s) s.heap H locs → Rl v r w q → lv_has ls 4 [(0, .ref b), (1, .ref (A 0)), (2, .ref (B 0)), (3, .int x3)] → W p l e room_1 s m args below meth c H locs 46 716 Q (F0 m 1179 ls [])) : W p l e room_1 s m args below meth c H locs 46 716 Q (F0 m 497 ls []) := by
  obtain ⟨hx, hb, hml, hown, hts, hX, hbl, hK, hN⟩ := C
  have hbA : ¬ (lA0 s) b := Nat.not_le.mpr hbl
  have S : CallFix p m c cL_law 4 s args wsL_law RL := ⟨hx, hb, hml, hown, hts⟩
  obtain ⟨y, e1, e2⟩ := hop v r w q hRl
  refine lv_aload_n hx hb dL_law_497 rfl (lv_at hl 1 rfl) ?_
  refine ro_v S (c_X7_laughter l D cy A (pcM cy B w q) (lA0 s) v r y e1) (cwV 0 hts gL_law_X7_laughter rfl rfl rfl (by decide +kernel) ⟨Nat.le_of_ble_eq_true rfl, Nat.le_of_ble_eq_true rfl⟩) hI hK hN (ci := 6) rfl atC_0 rfl rfl hl.1 rfl (Nat.le_of_ble_eq_true rfl) dL_law_498 ⟨Nat.le_of_ble_eq_true rfl, Nat.le_of_ble_eq_true rfl⟩ ?_
  refine lv_aload_n hx hb dL_law_501 rfl (lv_at hl 2 rfl) ?_
  have hI := IW_swap2 (L := pcC cy A v r) (Y := pcM cy B w q) hI
  refine ro_v S (c_X8_laughter l D cy B (pcC cy A v r) (lA0 s) w q y e2) (cwV 0 hts gL_law_X8_laughter rfl rfl rfl (by decide +kernel) ⟨Nat.le_of_ble_eq_true rfl, Nat.le_of_ble_eq_true rfl⟩) hI hK hN (ci := 7) rfl atM_0 rfl rfl hl.1 rfl (Nat.le_of_ble_eq_true rfl) dL_law_502 ⟨Nat.le_of_ble_eq_true rfl, Nat.le_of_ble_eq_true rfl⟩ ?_
  have hI := IW_swap2 (L := pcM cy B w q) (Y := pcC cy A v r) hI
  refine lv_icmp_eq (tgt := 1179) hx hb dL_law_505 (by decide) (fun _ => ?_) (fun c9 => absurd rfl c9)
  exact kk v r w q H _ ls hI hRl hl
set_option maxHeartbeats 4000000 in
set_option maxRecDepth 100000 in
theorem law_c12 {p : Program} {l : Launch} {e : Env} {s : State} {m : MethodId} {args : Array Value} {below : List Frame} {meth : Method} {c : Code} {D : va_G} {cy : Nat → ClassId} {A B : Nat → Nat} {b L : Nat} {xs : Nat → Int32} {Q : State → Prop} {Rl : RLT} (C : LCx p s m args c D cy b L xs) (hop : Op12 Rl) {v : V1} {r : V2} {w : V1} {q : V2} {H : Heap} {locs : List Loc} {ls : Array Slot} (hI : IW D (pcC cy A v r ++ pcM cy B w q) (lA0 s) s.heap H locs) (hRl : Rl v r w q) (x3 : Int32) (h1 : vp_in (x3 + 1) L) (h2 : vp_in (x3 + 2) L) (h3 : vp_in (x3 + 3) L) (h4 : vp_in (x3 + 4) L) (h5 : vp_in (x3 + 5) L) (hl : lv_has ls 4 [(0, .ref b), (1, .ref (A 0)), (2, .ref (B 0)), (3, .int x3)]) (kk : ∀ (v : V1) (r : V2) (w : V1) (q : V2) (H : Heap) (locs : List Loc) (ls : Array Slot), IW D (pcC cy A v r ++ pcM cy B w q) (lA0 s) s.heap H locs → Rl v r w q → lv_has ls 4 [(0, .ref b), (1, .ref (A 0)), (2, .ref (B 0)), (3, .int x3)] → W p l e room_1 s m args below meth c H locs 46 716 Q (F0 m 1179 ls [])) : W p l e room_1 s m args below meth c H locs 46 716 Q (F0 m 510 ls []) := by
  obtain ⟨hx, hb, hml, hown, hts, hX, hbl, hK, hN⟩ := C
  have hbA : ¬ (lA0 s) b := Nat.not_le.mpr hbl
  have S : CallFix p m c cL_law 4 s args wsL_law RL := ⟨hx, hb, hml, hown, hts⟩
  obtain ⟨y, e1, e2⟩ := hop v r w q (xs (x3 + 1).toNatClampNeg) hRl
  refine lv_aload_n hx hb dL_law_510 rfl (lv_at hl 1 rfl) ?_
  refine lv_aload_n hx hb dL_law_511 rfl (lv_at hl 0 rfl) ?_
  refine lv_iload_n hx hb dL_law_512 rfl (lv_at hl 3 rfl) ?_
  refine lv_iconst (v := 1) hx hb dL_law_513 (by decide) ?_
  refine lv_iadd hx hb dL_law_514 ?_
  refine va_sld hx hb hX hbl hbA hI.2.2 h1 dL_law_515 ?_
  refine ro_v S (c_X7_heard l D cy A (pcM cy B w q) (lA0 s) v r (xs (x3 + 1).toNatClampNeg) y e1) (cwV 1 hts gL_law_X7_heard rfl rfl rfl (by decide +kernel) ⟨Nat.le_of_ble_eq_true rfl, Nat.le_of_ble_eq_true rfl⟩) hI hK hN (ci := 6) rfl atC_0 rfl rfl hl.1 rfl (Nat.le_of_ble_eq_true rfl) dL_law_516 ⟨Nat.le_of_ble_eq_true rfl, Nat.le_of_ble_eq_true rfl⟩ ?_
  refine lv_aload_n hx hb dL_law_519 rfl (lv_at hl 2 rfl) ?_
  refine lv_aload_n hx hb dL_law_520 rfl (lv_at hl 0 rfl) ?_
  refine lv_iload_n hx hb dL_law_521 rfl (lv_at hl 3 rfl) ?_
  refine lv_iconst (v := 1) hx hb dL_law_522 (by decide) ?_
  refine lv_iadd hx hb dL_law_523 ?_
  refine va_sld hx hb hX hbl hbA hI.2.2 h1 dL_law_524 ?_
  have hI := IW_swap2 (L := pcC cy A v r) (Y := pcM cy B w q) hI
  refine ro_v S (c_X8_heard l D cy B (pcC cy A v r) (lA0 s) w q (xs (x3 + 1).toNatClampNeg) y e2) (cwV 1 hts gL_law_X8_heard rfl rfl rfl (by decide +kernel) ⟨Nat.le_of_ble_eq_true rfl, Nat.le_of_ble_eq_true rfl⟩) hI hK hN (ci := 7) rfl atM_0 rfl rfl hl.1 rfl (Nat.le_of_ble_eq_true rfl) dL_law_525 ⟨Nat.le_of_ble_eq_true rfl, Nat.le_of_ble_eq_true rfl⟩ ?_
  have hI := IW_swap2 (L := pcM cy B w q) (Y := pcC cy A v r) hI
  refine lv_icmp_eq (tgt := 1179) hx hb dL_law_528 (by decide) (fun _ => ?_) (fun c9 => absurd rfl c9)
  exact kk v r w q H _ ls hI hRl hl
set_option maxHeartbeats 4000000 in
set_option maxRecDepth 100000 in
theorem law_c13 {p : Program} {l : Launch} {e : Env} {s : State} {m : MethodId} {args : Array Value} {below : List Frame} {meth : Method} {c : Code} {D : va_G} {cy : Nat → ClassId} {A B : Nat → Nat} {b L : Nat} {xs : Nat → Int32} {Q : State → Prop} {Rl : RLT} (C : LCx p s m args c D cy b L xs) (hop : Op13 Rl) {v : V1} {r : V2} {w : V1} {q : V2} {H : Heap} {locs : List Loc} {ls : Array Slot} (hI : IW D (pcC cy A v r ++ pcM cy B w q) (lA0 s) s.heap H locs) (hRl : Rl v r w q) (x3 : Int32) (h1 : vp_in (x3 + 1) L) (h2 : vp_in (x3 + 2) L) (h3 : vp_in (x3 + 3) L) (h4 : vp_in (x3 + 4) L) (h5 : vp_in (x3 + 5) L) (hl : lv_has ls 4 [(0, .ref b), (1, .ref (A 0)), (2, .ref (B 0)), (3, .int x3)]) (kk : ∀ (v : V1) (r : V2) (w : V1) (q : V2) (H : Heap) (locs : List Loc) (ls : Array Slot), IW D (pcC cy A v r ++ pcM cy B w q) (lA0 s) s.heap H locs → Rl v r w q → lv_has ls 4 [(0, .ref b), (1, .ref (A 0)), (2, .ref (B 0)), (3, .int x3)] → W p l e room_1 s m args below meth c H locs 46 716 Q (F0 m 1179 ls [])) : W p l e room_1 s m args below meth c H locs 46 716 Q (F0 m 533 ls []) := by
  obtain ⟨hx, hb, hml, hown, hts, hX, hbl, hK, hN⟩ := C
  have hbA : ¬ (lA0 s) b := Nat.not_le.mpr hbl
  have S : CallFix p m c cL_law 4 s args wsL_law RL := ⟨hx, hb, hml, hown, hts⟩
  obtain ⟨y, v1, r1, w1, q1, e1, e2, hRl1⟩ := hop v r w q (xs (x3 + 1).toNatClampNeg) (xs (x3 + 2).toNatClampNeg) (xs (x3 + 3).toNatClampNeg) (xs (x3 + 4).toNatClampNeg) (xs (x3 + 5).toNatClampNeg) hRl
  refine lv_aload_n hx hb dL_law_533 rfl (lv_at hl 1 rfl) ?_
  refine lv_aload_n hx hb dL_law_534 rfl (lv_at hl 0 rfl) ?_
  refine lv_iload_n hx hb dL_law_535 rfl (lv_at hl 3 rfl) ?_
  refine lv_iconst (v := 1) hx hb dL_law_536 (by decide) ?_
  refine lv_iadd hx hb dL_law_537 ?_
  refine va_sld hx hb hX hbl hbA hI.2.2 h1 dL_law_538 ?_
  refine lv_aload_n hx hb dL_law_539 rfl (lv_at hl 0 rfl) ?_
  refine lv_iload_n hx hb dL_law_540 rfl (lv_at hl 3 rfl) ?_
  refine lv_iconst (v := 2) hx hb dL_law_541 (by decide) ?_
  refine lv_iadd hx hb dL_law_542 ?_
  refine va_sld hx hb hX hbl hbA hI.2.2 h2 dL_law_543 ?_
  refine lv_aload_n hx hb dL_law_544 rfl (lv_at hl 0 rfl) ?_
  refine lv_iload_n hx hb dL_law_545 rfl (lv_at hl 3 rfl) ?_
  refine lv_iconst (v := 3) hx hb dL_law_546 (by decide) ?_
  refine lv_iadd hx hb dL_law_547 ?_
  refine va_sld hx hb hX hbl hbA hI.2.2 h3 dL_law_548 ?_
  refine lv_aload_n hx hb dL_law_549 rfl (lv_at hl 0 rfl) ?_
  refine lv_iload_n hx hb dL_law_550 rfl (lv_at hl 3 rfl) ?_
  refine lv_iconst (v := 4) hx hb dL_law_551 (by decide) ?_
  refine lv_iadd hx hb dL_law_552 ?_
  refine va_sld hx hb hX hbl hbA hI.2.2 h4 dL_law_553 ?_
  refine lv_aload_n hx hb dL_law_554 rfl (lv_at hl 0 rfl) ?_
  refine lv_iload_n hx hb dL_law_555 rfl (lv_at hl 3 rfl) ?_
  refine lv_iconst (v := 5) hx hb dL_law_556 (by decide) ?_
  refine lv_iadd hx hb dL_law_557 ?_
  refine va_sld hx hb hX hbl hbA hI.2.2 h5 dL_law_558 ?_
  refine rw_v S (c_X7_year l D cy A (pcM cy B w q) (lA0 s) v r (xs (x3 + 1).toNatClampNeg) (xs (x3 + 2).toNatClampNeg) (xs (x3 + 3).toNatClampNeg) (xs (x3 + 4).toNatClampNeg) (xs (x3 + 5).toNatClampNeg) y v1 r1 e1) (cwV 5 hts gL_law_X7_year rfl rfl rfl (by decide +kernel) ⟨Nat.le_of_ble_eq_true rfl, Nat.le_of_ble_eq_true rfl⟩) hI hK hN (ci := 6) rfl atC_0 rfl rfl hl.1 rfl (Nat.le_of_ble_eq_true rfl) dL_law_559 ⟨Nat.le_of_ble_eq_true rfl, Nat.le_of_ble_eq_true rfl⟩ (fun H locs hI => ?_)
  refine lv_aload_n hx hb dL_law_562 rfl (lv_at hl 2 rfl) ?_
  refine lv_aload_n hx hb dL_law_563 rfl (lv_at hl 0 rfl) ?_
  refine lv_iload_n hx hb dL_law_564 rfl (lv_at hl 3 rfl) ?_
  refine lv_iconst (v := 1) hx hb dL_law_565 (by decide) ?_
  refine lv_iadd hx hb dL_law_566 ?_
  refine va_sld hx hb hX hbl hbA hI.2.2 h1 dL_law_567 ?_
  refine lv_aload_n hx hb dL_law_568 rfl (lv_at hl 0 rfl) ?_
  refine lv_iload_n hx hb dL_law_569 rfl (lv_at hl 3 rfl) ?_
  refine lv_iconst (v := 2) hx hb dL_law_570 (by decide) ?_
  refine lv_iadd hx hb dL_law_571 ?_
  refine va_sld hx hb hX hbl hbA hI.2.2 h2 dL_law_572 ?_
  refine lv_aload_n hx hb dL_law_573 rfl (lv_at hl 0 rfl) ?_
  refine lv_iload_n hx hb dL_law_574 rfl (lv_at hl 3 rfl) ?_
  refine lv_iconst (v := 3) hx hb dL_law_575 (by decide) ?_
  refine lv_iadd hx hb dL_law_576 ?_
  refine va_sld hx hb hX hbl hbA hI.2.2 h3 dL_law_577 ?_
  refine lv_aload_n hx hb dL_law_578 rfl (lv_at hl 0 rfl) ?_
  refine lv_iload_n hx hb dL_law_579 rfl (lv_at hl 3 rfl) ?_
  refine lv_iconst (v := 4) hx hb dL_law_580 (by decide) ?_
  refine lv_iadd hx hb dL_law_581 ?_
  refine va_sld hx hb hX hbl hbA hI.2.2 h4 dL_law_582 ?_
  refine lv_aload_n hx hb dL_law_583 rfl (lv_at hl 0 rfl) ?_
  refine lv_iload_n hx hb dL_law_584 rfl (lv_at hl 3 rfl) ?_
  refine lv_iconst (v := 5) hx hb dL_law_585 (by decide) ?_
  refine lv_iadd hx hb dL_law_586 ?_
  refine va_sld hx hb hX hbl hbA hI.2.2 h5 dL_law_587 ?_
  have hI := IW_swap2 (L := pcC cy A v1 r1) (Y := pcM cy B w q) hI
  refine rw_v S (c_X8_year l D cy B (pcC cy A v1 r1) (lA0 s) w q (xs (x3 + 1).toNatClampNeg) (xs (x3 + 2).toNatClampNeg) (xs (x3 + 3).toNatClampNeg) (xs (x3 + 4).toNatClampNeg) (xs (x3 + 5).toNatClampNeg) y w1 q1 e2) (cwV 5 hts gL_law_X8_year rfl rfl rfl (by decide +kernel) ⟨Nat.le_of_ble_eq_true rfl, Nat.le_of_ble_eq_true rfl⟩) hI hK hN (ci := 7) rfl atM_0 rfl rfl hl.1 rfl (Nat.le_of_ble_eq_true rfl) dL_law_588 ⟨Nat.le_of_ble_eq_true rfl, Nat.le_of_ble_eq_true rfl⟩ (fun H locs hI => ?_)
  have hI := IW_swap2 (L := pcM cy B w1 q1) (Y := pcC cy A v1 r1) hI
  refine lv_icmp_eq (tgt := 1179) hx hb dL_law_591 (by decide) (fun _ => ?_) (fun c9 => absurd rfl c9)
  exact kk v1 r1 w1 q1 H _ ls hI hRl1 hl
set_option maxHeartbeats 4000000 in
set_option maxRecDepth 100000 in
theorem law_c14 {p : Program} {l : Launch} {e : Env} {s : State} {m : MethodId} {args : Array Value} {below : List Frame} {meth : Method} {c : Code} {D : va_G} {cy : Nat → ClassId} {A B : Nat → Nat} {b L : Nat} {xs : Nat → Int32} {Q : State → Prop} {Rl : RLT} (C : LCx p s m args c D cy b L xs) (hop : Op14 Rl) {v : V1} {r : V2} {w : V1} {q : V2} {H : Heap} {locs : List Loc} {ls : Array Slot} (hI : IW D (pcC cy A v r ++ pcM cy B w q) (lA0 s) s.heap H locs) (hRl : Rl v r w q) (x3 : Int32) (h1 : vp_in (x3 + 1) L) (h2 : vp_in (x3 + 2) L) (h3 : vp_in (x3 + 3) L) (h4 : vp_in (x3 + 4) L) (h5 : vp_in (x3 + 5) L) (hl : lv_has ls 4 [(0, .ref b), (1, .ref (A 0)), (2, .ref (B 0)), (3, .int x3)]) (kk : ∀ (v : V1) (r : V2) (w : V1) (q : V2) (H : Heap) (locs : List Loc) (ls : Array Slot), IW D (pcC cy A v r ++ pcM cy B w q) (lA0 s) s.heap H locs → Rl v r w q → lv_has ls 4 [(0, .ref b), (1, .ref (A 0)), (2, .ref (B 0)), (3, .int x3)] → W p l e room_1 s m args below meth c H locs 46 716 Q (F0 m 1179 ls [])) : W p l e room_1 s m args below meth c H locs 46 716 Q (F0 m 596 ls []) := by
  obtain ⟨hx, hb, hml, hown, hts, hX, hbl, hK, hN⟩ := C
  have hbA : ¬ (lA0 s) b := Nat.not_le.mpr hbl
  have S : CallFix p m c cL_law 4 s args wsL_law RL := ⟨hx, hb, hml, hown, hts⟩
  obtain ⟨y, v1, r1, w1, q1, e1, e2, hRl1⟩ := hop v r w q (xs (x3 + 1).toNatClampNeg) (xs (x3 + 2).toNatClampNeg) hRl
  refine lv_aload_n hx hb dL_law_596 rfl (lv_at hl 1 rfl) ?_
  refine lv_aload_n hx hb dL_law_597 rfl (lv_at hl 0 rfl) ?_
  refine lv_iload_n hx hb dL_law_598 rfl (lv_at hl 3 rfl) ?_
  refine lv_iconst (v := 1) hx hb dL_law_599 (by decide) ?_
  refine lv_iadd hx hb dL_law_600 ?_
  refine va_sld hx hb hX hbl hbA hI.2.2 h1 dL_law_601 ?_
  refine lv_aload_n hx hb dL_law_602 rfl (lv_at hl 0 rfl) ?_
  refine lv_iload_n hx hb dL_law_603 rfl (lv_at hl 3 rfl) ?_
  refine lv_iconst (v := 2) hx hb dL_law_604 (by decide) ?_
  refine lv_iadd hx hb dL_law_605 ?_
  refine va_sld hx hb hX hbl hbA hI.2.2 h2 dL_law_606 ?_
  refine rw_v S (c_X7_packs l D cy A (pcM cy B w q) (lA0 s) v r (xs (x3 + 1).toNatClampNeg) (xs (x3 + 2).toNatClampNeg) y v1 r1 e1) (cwV 2 hts gL_law_X7_packs rfl rfl rfl (by decide +kernel) ⟨Nat.le_of_ble_eq_true rfl, Nat.le_of_ble_eq_true rfl⟩) hI hK hN (ci := 6) rfl atC_0 rfl rfl hl.1 rfl (Nat.le_of_ble_eq_true rfl) dL_law_607 ⟨Nat.le_of_ble_eq_true rfl, Nat.le_of_ble_eq_true rfl⟩ (fun H locs hI => ?_)
  refine lv_aload_n hx hb dL_law_610 rfl (lv_at hl 2 rfl) ?_
  refine lv_aload_n hx hb dL_law_611 rfl (lv_at hl 0 rfl) ?_
  refine lv_iload_n hx hb dL_law_612 rfl (lv_at hl 3 rfl) ?_
  refine lv_iconst (v := 1) hx hb dL_law_613 (by decide) ?_
  refine lv_iadd hx hb dL_law_614 ?_
  refine va_sld hx hb hX hbl hbA hI.2.2 h1 dL_law_615 ?_
  refine lv_aload_n hx hb dL_law_616 rfl (lv_at hl 0 rfl) ?_
  refine lv_iload_n hx hb dL_law_617 rfl (lv_at hl 3 rfl) ?_
  refine lv_iconst (v := 2) hx hb dL_law_618 (by decide) ?_
  refine lv_iadd hx hb dL_law_619 ?_
  refine va_sld hx hb hX hbl hbA hI.2.2 h2 dL_law_620 ?_
  have hI := IW_swap2 (L := pcC cy A v1 r1) (Y := pcM cy B w q) hI
  refine rw_v S (c_X8_packs l D cy B (pcC cy A v1 r1) (lA0 s) w q (xs (x3 + 1).toNatClampNeg) (xs (x3 + 2).toNatClampNeg) y w1 q1 e2) (cwV 2 hts gL_law_X8_packs rfl rfl rfl (by decide +kernel) ⟨Nat.le_of_ble_eq_true rfl, Nat.le_of_ble_eq_true rfl⟩) hI hK hN (ci := 7) rfl atM_0 rfl rfl hl.1 rfl (Nat.le_of_ble_eq_true rfl) dL_law_621 ⟨Nat.le_of_ble_eq_true rfl, Nat.le_of_ble_eq_true rfl⟩ (fun H locs hI => ?_)
  have hI := IW_swap2 (L := pcM cy B w1 q1) (Y := pcC cy A v1 r1) hI
  refine lv_icmp_eq (tgt := 1179) hx hb dL_law_624 (by decide) (fun _ => ?_) (fun c9 => absurd rfl c9)
  exact kk v1 r1 w1 q1 H _ ls hI hRl1 hl
set_option maxHeartbeats 4000000 in
set_option maxRecDepth 100000 in
theorem law_c15 {p : Program} {l : Launch} {e : Env} {s : State} {m : MethodId} {args : Array Value} {below : List Frame} {meth : Method} {c : Code} {D : va_G} {cy : Nat → ClassId} {A B : Nat → Nat} {b L : Nat} {xs : Nat → Int32} {Q : State → Prop} {Rl : RLT} (C : LCx p s m args c D cy b L xs) (hop : Op15 Rl) {v : V1} {r : V2} {w : V1} {q : V2} {H : Heap} {locs : List Loc} {ls : Array Slot} (hI : IW D (pcC cy A v r ++ pcM cy B w q) (lA0 s) s.heap H locs) (hRl : Rl v r w q) (x3 : Int32) (h1 : vp_in (x3 + 1) L) (h2 : vp_in (x3 + 2) L) (h3 : vp_in (x3 + 3) L) (h4 : vp_in (x3 + 4) L) (h5 : vp_in (x3 + 5) L) (hl : lv_has ls 4 [(0, .ref b), (1, .ref (A 0)), (2, .ref (B 0)), (3, .int x3)]) (kk : ∀ (v : V1) (r : V2) (w : V1) (q : V2) (H : Heap) (locs : List Loc) (ls : Array Slot), IW D (pcC cy A v r ++ pcM cy B w q) (lA0 s) s.heap H locs → Rl v r w q → lv_has ls 4 [(0, .ref b), (1, .ref (A 0)), (2, .ref (B 0)), (3, .int x3)] → W p l e room_1 s m args below meth c H locs 46 716 Q (F0 m 1179 ls [])) : W p l e room_1 s m args below meth c H locs 46 716 Q (F0 m 629 ls []) := by
  obtain ⟨hx, hb, hml, hown, hts, hX, hbl, hK, hN⟩ := C
  have hbA : ¬ (lA0 s) b := Nat.not_le.mpr hbl
  have S : CallFix p m c cL_law 4 s args wsL_law RL := ⟨hx, hb, hml, hown, hts⟩
  obtain ⟨y, e1, e2⟩ := hop v r w q (xs (x3 + 1).toNatClampNeg) hRl
  refine lv_aload_n hx hb dL_law_629 rfl (lv_at hl 1 rfl) ?_
  refine lv_aload_n hx hb dL_law_630 rfl (lv_at hl 0 rfl) ?_
  refine lv_iload_n hx hb dL_law_631 rfl (lv_at hl 3 rfl) ?_
  refine lv_iconst (v := 1) hx hb dL_law_632 (by decide) ?_
  refine lv_iadd hx hb dL_law_633 ?_
  refine va_sld hx hb hX hbl hbA hI.2.2 h1 dL_law_634 ?_
  refine ro_v S (c_X7_fetch l D cy A (pcM cy B w q) (lA0 s) v r (xs (x3 + 1).toNatClampNeg) y e1) (cwV 1 hts gL_law_X7_fetch rfl rfl rfl (by decide +kernel) ⟨Nat.le_of_ble_eq_true rfl, Nat.le_of_ble_eq_true rfl⟩) hI hK hN (ci := 6) rfl atC_0 rfl rfl hl.1 rfl (Nat.le_of_ble_eq_true rfl) dL_law_635 ⟨Nat.le_of_ble_eq_true rfl, Nat.le_of_ble_eq_true rfl⟩ ?_
  refine lv_aload_n hx hb dL_law_638 rfl (lv_at hl 2 rfl) ?_
  refine lv_aload_n hx hb dL_law_639 rfl (lv_at hl 0 rfl) ?_
  refine lv_iload_n hx hb dL_law_640 rfl (lv_at hl 3 rfl) ?_
  refine lv_iconst (v := 1) hx hb dL_law_641 (by decide) ?_
  refine lv_iadd hx hb dL_law_642 ?_
  refine va_sld hx hb hX hbl hbA hI.2.2 h1 dL_law_643 ?_
  have hI := IW_swap2 (L := pcC cy A v r) (Y := pcM cy B w q) hI
  refine ro_v S (c_X8_fetch l D cy B (pcC cy A v r) (lA0 s) w q (xs (x3 + 1).toNatClampNeg) y e2) (cwV 1 hts gL_law_X8_fetch rfl rfl rfl (by decide +kernel) ⟨Nat.le_of_ble_eq_true rfl, Nat.le_of_ble_eq_true rfl⟩) hI hK hN (ci := 7) rfl atM_0 rfl rfl hl.1 rfl (Nat.le_of_ble_eq_true rfl) dL_law_644 ⟨Nat.le_of_ble_eq_true rfl, Nat.le_of_ble_eq_true rfl⟩ ?_
  have hI := IW_swap2 (L := pcM cy B w q) (Y := pcC cy A v r) hI
  refine lv_icmp_eq (tgt := 1179) hx hb dL_law_647 (by decide) (fun _ => ?_) (fun c9 => absurd rfl c9)
  exact kk v r w q H _ ls hI hRl hl
set_option maxHeartbeats 4000000 in
set_option maxRecDepth 100000 in
theorem law_c16 {p : Program} {l : Launch} {e : Env} {s : State} {m : MethodId} {args : Array Value} {below : List Frame} {meth : Method} {c : Code} {D : va_G} {cy : Nat → ClassId} {A B : Nat → Nat} {b L : Nat} {xs : Nat → Int32} {Q : State → Prop} {Rl : RLT} (C : LCx p s m args c D cy b L xs) (hop : Op16 Rl) {v : V1} {r : V2} {w : V1} {q : V2} {H : Heap} {locs : List Loc} {ls : Array Slot} (hI : IW D (pcC cy A v r ++ pcM cy B w q) (lA0 s) s.heap H locs) (hRl : Rl v r w q) (x3 : Int32) (h1 : vp_in (x3 + 1) L) (h2 : vp_in (x3 + 2) L) (h3 : vp_in (x3 + 3) L) (h4 : vp_in (x3 + 4) L) (h5 : vp_in (x3 + 5) L) (hl : lv_has ls 4 [(0, .ref b), (1, .ref (A 0)), (2, .ref (B 0)), (3, .int x3)]) (kk : ∀ (v : V1) (r : V2) (w : V1) (q : V2) (H : Heap) (locs : List Loc) (ls : Array Slot), IW D (pcC cy A v r ++ pcM cy B w q) (lA0 s) s.heap H locs → Rl v r w q → lv_has ls 4 [(0, .ref b), (1, .ref (A 0)), (2, .ref (B 0)), (3, .int x3)] → W p l e room_1 s m args below meth c H locs 46 716 Q (F0 m 1179 ls [])) : W p l e room_1 s m args below meth c H locs 46 716 Q (F0 m 652 ls []) := by
  obtain ⟨hx, hb, hml, hown, hts, hX, hbl, hK, hN⟩ := C
  have hbA : ¬ (lA0 s) b := Nat.not_le.mpr hbl
  have S : CallFix p m c cL_law 4 s args wsL_law RL := ⟨hx, hb, hml, hown, hts⟩
  obtain ⟨y, e1, e2⟩ := hop v r w q (xs (x3 + 1).toNatClampNeg) hRl
  refine lv_aload_n hx hb dL_law_652 rfl (lv_at hl 1 rfl) ?_
  refine lv_aload_n hx hb dL_law_653 rfl (lv_at hl 0 rfl) ?_
  refine lv_iload_n hx hb dL_law_654 rfl (lv_at hl 3 rfl) ?_
  refine lv_iconst (v := 1) hx hb dL_law_655 (by decide) ?_
  refine lv_iadd hx hb dL_law_656 ?_
  refine va_sld hx hb hX hbl hbA hI.2.2 h1 dL_law_657 ?_
  refine ro_v S (c_X7_lure l D cy A (pcM cy B w q) (lA0 s) v r (xs (x3 + 1).toNatClampNeg) y e1) (cwV 1 hts gL_law_X7_lure rfl rfl rfl (by decide +kernel) ⟨Nat.le_of_ble_eq_true rfl, Nat.le_of_ble_eq_true rfl⟩) hI hK hN (ci := 6) rfl atC_0 rfl rfl hl.1 rfl (Nat.le_of_ble_eq_true rfl) dL_law_658 ⟨Nat.le_of_ble_eq_true rfl, Nat.le_of_ble_eq_true rfl⟩ ?_
  refine lv_aload_n hx hb dL_law_661 rfl (lv_at hl 2 rfl) ?_
  refine lv_aload_n hx hb dL_law_662 rfl (lv_at hl 0 rfl) ?_
  refine lv_iload_n hx hb dL_law_663 rfl (lv_at hl 3 rfl) ?_
  refine lv_iconst (v := 1) hx hb dL_law_664 (by decide) ?_
  refine lv_iadd hx hb dL_law_665 ?_
  refine va_sld hx hb hX hbl hbA hI.2.2 h1 dL_law_666 ?_
  have hI := IW_swap2 (L := pcC cy A v r) (Y := pcM cy B w q) hI
  refine ro_v S (c_X8_lure l D cy B (pcC cy A v r) (lA0 s) w q (xs (x3 + 1).toNatClampNeg) y e2) (cwV 1 hts gL_law_X8_lure rfl rfl rfl (by decide +kernel) ⟨Nat.le_of_ble_eq_true rfl, Nat.le_of_ble_eq_true rfl⟩) hI hK hN (ci := 7) rfl atM_0 rfl rfl hl.1 rfl (Nat.le_of_ble_eq_true rfl) dL_law_667 ⟨Nat.le_of_ble_eq_true rfl, Nat.le_of_ble_eq_true rfl⟩ ?_
  have hI := IW_swap2 (L := pcM cy B w q) (Y := pcC cy A v r) hI
  refine lv_icmp_eq (tgt := 1179) hx hb dL_law_670 (by decide) (fun _ => ?_) (fun c9 => absurd rfl c9)
  exact kk v r w q H _ ls hI hRl hl
set_option maxHeartbeats 4000000 in
set_option maxRecDepth 100000 in
theorem law_c17 {p : Program} {l : Launch} {e : Env} {s : State} {m : MethodId} {args : Array Value} {below : List Frame} {meth : Method} {c : Code} {D : va_G} {cy : Nat → ClassId} {A B : Nat → Nat} {b L : Nat} {xs : Nat → Int32} {Q : State → Prop} {Rl : RLT} (C : LCx p s m args c D cy b L xs) (hop : Op17 Rl) {v : V1} {r : V2} {w : V1} {q : V2} {H : Heap} {locs : List Loc} {ls : Array Slot} (hI : IW D (pcC cy A v r ++ pcM cy B w q) (lA0 s) s.heap H locs) (hRl : Rl v r w q) (x3 : Int32) (h1 : vp_in (x3 + 1) L) (h2 : vp_in (x3 + 2) L) (h3 : vp_in (x3 + 3) L) (h4 : vp_in (x3 + 4) L) (h5 : vp_in (x3 + 5) L) (hl : lv_has ls 4 [(0, .ref b), (1, .ref (A 0)), (2, .ref (B 0)), (3, .int x3)]) (kk : ∀ (v : V1) (r : V2) (w : V1) (q : V2) (H : Heap) (locs : List Loc) (ls : Array Slot), IW D (pcC cy A v r ++ pcM cy B w q) (lA0 s) s.heap H locs → Rl v r w q → lv_has ls 4 [(0, .ref b), (1, .ref (A 0)), (2, .ref (B 0)), (3, .int x3)] → W p l e room_1 s m args below meth c H locs 46 716 Q (F0 m 1179 ls [])) : W p l e room_1 s m args below meth c H locs 46 716 Q (F0 m 675 ls []) := by
  obtain ⟨hx, hb, hml, hown, hts, hX, hbl, hK, hN⟩ := C
  have hbA : ¬ (lA0 s) b := Nat.not_le.mpr hbl
  have S : CallFix p m c cL_law 4 s args wsL_law RL := ⟨hx, hb, hml, hown, hts⟩
  obtain ⟨y, v1, r1, w1, q1, e1, e2, hRl1⟩ := hop v r w q (xs (x3 + 1).toNatClampNeg) (xs (x3 + 2).toNatClampNeg) hRl
  refine lv_aload_n hx hb dL_law_675 rfl (lv_at hl 1 rfl) ?_
  refine lv_aload_n hx hb dL_law_676 rfl (lv_at hl 0 rfl) ?_
  refine lv_iload_n hx hb dL_law_677 rfl (lv_at hl 3 rfl) ?_
  refine lv_iconst (v := 1) hx hb dL_law_678 (by decide) ?_
  refine lv_iadd hx hb dL_law_679 ?_
  refine va_sld hx hb hX hbl hbA hI.2.2 h1 dL_law_680 ?_
  refine lv_aload_n hx hb dL_law_681 rfl (lv_at hl 0 rfl) ?_
  refine lv_iload_n hx hb dL_law_682 rfl (lv_at hl 3 rfl) ?_
  refine lv_iconst (v := 2) hx hb dL_law_683 (by decide) ?_
  refine lv_iadd hx hb dL_law_684 ?_
  refine va_sld hx hb hX hbl hbA hI.2.2 h2 dL_law_685 ?_
  refine rw_v S (c_X7_reading l D cy A (pcM cy B w q) (lA0 s) v r (xs (x3 + 1).toNatClampNeg) (xs (x3 + 2).toNatClampNeg) y v1 r1 e1) (cwV 2 hts gL_law_X7_reading rfl rfl rfl (by decide +kernel) ⟨Nat.le_of_ble_eq_true rfl, Nat.le_of_ble_eq_true rfl⟩) hI hK hN (ci := 6) rfl atC_0 rfl rfl hl.1 rfl (Nat.le_of_ble_eq_true rfl) dL_law_686 ⟨Nat.le_of_ble_eq_true rfl, Nat.le_of_ble_eq_true rfl⟩ (fun H locs hI => ?_)
  refine lv_aload_n hx hb dL_law_689 rfl (lv_at hl 2 rfl) ?_
  refine lv_aload_n hx hb dL_law_690 rfl (lv_at hl 0 rfl) ?_
  refine lv_iload_n hx hb dL_law_691 rfl (lv_at hl 3 rfl) ?_
  refine lv_iconst (v := 1) hx hb dL_law_692 (by decide) ?_
  refine lv_iadd hx hb dL_law_693 ?_
  refine va_sld hx hb hX hbl hbA hI.2.2 h1 dL_law_694 ?_
  refine lv_aload_n hx hb dL_law_695 rfl (lv_at hl 0 rfl) ?_
  refine lv_iload_n hx hb dL_law_696 rfl (lv_at hl 3 rfl) ?_
  refine lv_iconst (v := 2) hx hb dL_law_697 (by decide) ?_
  refine lv_iadd hx hb dL_law_698 ?_
  refine va_sld hx hb hX hbl hbA hI.2.2 h2 dL_law_699 ?_
  have hI := IW_swap2 (L := pcC cy A v1 r1) (Y := pcM cy B w q) hI
  refine rw_v S (c_X8_reading l D cy B (pcC cy A v1 r1) (lA0 s) w q (xs (x3 + 1).toNatClampNeg) (xs (x3 + 2).toNatClampNeg) y w1 q1 e2) (cwV 2 hts gL_law_X8_reading rfl rfl rfl (by decide +kernel) ⟨Nat.le_of_ble_eq_true rfl, Nat.le_of_ble_eq_true rfl⟩) hI hK hN (ci := 7) rfl atM_0 rfl rfl hl.1 rfl (Nat.le_of_ble_eq_true rfl) dL_law_700 ⟨Nat.le_of_ble_eq_true rfl, Nat.le_of_ble_eq_true rfl⟩ (fun H locs hI => ?_)
  have hI := IW_swap2 (L := pcM cy B w1 q1) (Y := pcC cy A v1 r1) hI
  refine lv_icmp_eq (tgt := 1179) hx hb dL_law_703 (by decide) (fun _ => ?_) (fun c9 => absurd rfl c9)
  exact kk v1 r1 w1 q1 H _ ls hI hRl1 hl
set_option maxHeartbeats 4000000 in
set_option maxRecDepth 100000 in
theorem law_c18 {p : Program} {l : Launch} {e : Env} {s : State} {m : MethodId} {args : Array Value} {below : List Frame} {meth : Method} {c : Code} {D : va_G} {cy : Nat → ClassId} {A B : Nat → Nat} {b L : Nat} {xs : Nat → Int32} {Q : State → Prop} {Rl : RLT} (C : LCx p s m args c D cy b L xs) (hop : Op18 Rl) {v : V1} {r : V2} {w : V1} {q : V2} {H : Heap} {locs : List Loc} {ls : Array Slot} (hI : IW D (pcC cy A v r ++ pcM cy B w q) (lA0 s) s.heap H locs) (hRl : Rl v r w q) (x3 : Int32) (h1 : vp_in (x3 + 1) L) (h2 : vp_in (x3 + 2) L) (h3 : vp_in (x3 + 3) L) (h4 : vp_in (x3 + 4) L) (h5 : vp_in (x3 + 5) L) (hl : lv_has ls 4 [(0, .ref b), (1, .ref (A 0)), (2, .ref (B 0)), (3, .int x3)]) (kk : ∀ (v : V1) (r : V2) (w : V1) (q : V2) (H : Heap) (locs : List Loc) (ls : Array Slot), IW D (pcC cy A v r ++ pcM cy B w q) (lA0 s) s.heap H locs → Rl v r w q → lv_has ls 4 [(0, .ref b), (1, .ref (A 0)), (2, .ref (B 0)), (3, .int x3)] → W p l e room_1 s m args below meth c H locs 46 716 Q (F0 m 1179 ls [])) : W p l e room_1 s m args below meth c H locs 46 716 Q (F0 m 708 ls []) := by
  obtain ⟨hx, hb, hml, hown, hts, hX, hbl, hK, hN⟩ := C
  have hbA : ¬ (lA0 s) b := Nat.not_le.mpr hbl
  have S : CallFix p m c cL_law 4 s args wsL_law RL := ⟨hx, hb, hml, hown, hts⟩
  obtain ⟨y, v1, r1, w1, q1, e1, e2, hRl1⟩ := hop v r w q (xs (x3 + 1).toNatClampNeg) hRl
  refine lv_aload_n hx hb dL_law_708 rfl (lv_at hl 1 rfl) ?_
  refine lv_aload_n hx hb dL_law_709 rfl (lv_at hl 0 rfl) ?_
  refine lv_iload_n hx hb dL_law_710 rfl (lv_at hl 3 rfl) ?_
  refine lv_iconst (v := 1) hx hb dL_law_711 (by decide) ?_
  refine lv_iadd hx hb dL_law_712 ?_
  refine va_sld hx hb hX hbl hbA hI.2.2 h1 dL_law_713 ?_
  refine rw_v S (c_X7_back l D cy A (pcM cy B w q) (lA0 s) v r (xs (x3 + 1).toNatClampNeg) y v1 r1 e1) (cwV 1 hts gL_law_X7_back rfl rfl rfl (by decide +kernel) ⟨Nat.le_of_ble_eq_true rfl, Nat.le_of_ble_eq_true rfl⟩) hI hK hN (ci := 6) rfl atC_0 rfl rfl hl.1 rfl (Nat.le_of_ble_eq_true rfl) dL_law_714 ⟨Nat.le_of_ble_eq_true rfl, Nat.le_of_ble_eq_true rfl⟩ (fun H locs hI => ?_)
  refine lv_aload_n hx hb dL_law_717 rfl (lv_at hl 2 rfl) ?_
  refine lv_aload_n hx hb dL_law_718 rfl (lv_at hl 0 rfl) ?_
  refine lv_iload_n hx hb dL_law_719 rfl (lv_at hl 3 rfl) ?_
  refine lv_iconst (v := 1) hx hb dL_law_720 (by decide) ?_
  refine lv_iadd hx hb dL_law_721 ?_
  refine va_sld hx hb hX hbl hbA hI.2.2 h1 dL_law_722 ?_
  have hI := IW_swap2 (L := pcC cy A v1 r1) (Y := pcM cy B w q) hI
  refine rw_v S (c_X8_back l D cy B (pcC cy A v1 r1) (lA0 s) w q (xs (x3 + 1).toNatClampNeg) y w1 q1 e2) (cwV 1 hts gL_law_X8_back rfl rfl rfl (by decide +kernel) ⟨Nat.le_of_ble_eq_true rfl, Nat.le_of_ble_eq_true rfl⟩) hI hK hN (ci := 7) rfl atM_0 rfl rfl hl.1 rfl (Nat.le_of_ble_eq_true rfl) dL_law_723 ⟨Nat.le_of_ble_eq_true rfl, Nat.le_of_ble_eq_true rfl⟩ (fun H locs hI => ?_)
  have hI := IW_swap2 (L := pcM cy B w1 q1) (Y := pcC cy A v1 r1) hI
  refine lv_icmp_eq (tgt := 1179) hx hb dL_law_726 (by decide) (fun _ => ?_) (fun c9 => absurd rfl c9)
  exact kk v1 r1 w1 q1 H _ ls hI hRl1 hl
set_option maxHeartbeats 4000000 in
set_option maxRecDepth 100000 in
theorem law_c19 {p : Program} {l : Launch} {e : Env} {s : State} {m : MethodId} {args : Array Value} {below : List Frame} {meth : Method} {c : Code} {D : va_G} {cy : Nat → ClassId} {A B : Nat → Nat} {b L : Nat} {xs : Nat → Int32} {Q : State → Prop} {Rl : RLT} (C : LCx p s m args c D cy b L xs) (hop : Op19 Rl) {v : V1} {r : V2} {w : V1} {q : V2} {H : Heap} {locs : List Loc} {ls : Array Slot} (hI : IW D (pcC cy A v r ++ pcM cy B w q) (lA0 s) s.heap H locs) (hRl : Rl v r w q) (x3 : Int32) (h1 : vp_in (x3 + 1) L) (h2 : vp_in (x3 + 2) L) (h3 : vp_in (x3 + 3) L) (h4 : vp_in (x3 + 4) L) (h5 : vp_in (x3 + 5) L) (hl : lv_has ls 4 [(0, .ref b), (1, .ref (A 0)), (2, .ref (B 0)), (3, .int x3)]) (kk : ∀ (v : V1) (r : V2) (w : V1) (q : V2) (H : Heap) (locs : List Loc) (ls : Array Slot), IW D (pcC cy A v r ++ pcM cy B w q) (lA0 s) s.heap H locs → Rl v r w q → lv_has ls 4 [(0, .ref b), (1, .ref (A 0)), (2, .ref (B 0)), (3, .int x3)] → W p l e room_1 s m args below meth c H locs 46 716 Q (F0 m 1179 ls [])) : W p l e room_1 s m args below meth c H locs 46 716 Q (F0 m 731 ls []) := by
  obtain ⟨hx, hb, hml, hown, hts, hX, hbl, hK, hN⟩ := C
  have hbA : ¬ (lA0 s) b := Nat.not_le.mpr hbl
  have S : CallFix p m c cL_law 4 s args wsL_law RL := ⟨hx, hb, hml, hown, hts⟩
  obtain ⟨y, w1, q1, e1, e2, hRl1⟩ := hop v r w q (xs (x3 + 1).toNatClampNeg) hRl
  refine lv_aload_n hx hb dL_law_731 rfl (lv_at hl 1 rfl) ?_
  refine lv_aload_n hx hb dL_law_732 rfl (lv_at hl 0 rfl) ?_
  refine lv_iload_n hx hb dL_law_733 rfl (lv_at hl 3 rfl) ?_
  refine lv_iconst (v := 1) hx hb dL_law_734 (by decide) ?_
  refine lv_iadd hx hb dL_law_735 ?_
  refine va_sld hx hb hX hbl hbA hI.2.2 h1 dL_law_736 ?_
  refine ro_v S (c_X7_gaieties l D cy A (pcM cy B w q) (lA0 s) v r (xs (x3 + 1).toNatClampNeg) y e1) (cwV 1 hts gL_law_X7_gaieties rfl rfl rfl (by decide +kernel) ⟨Nat.le_of_ble_eq_true rfl, Nat.le_of_ble_eq_true rfl⟩) hI hK hN (ci := 6) rfl atC_0 rfl rfl hl.1 rfl (Nat.le_of_ble_eq_true rfl) dL_law_737 ⟨Nat.le_of_ble_eq_true rfl, Nat.le_of_ble_eq_true rfl⟩ ?_
  refine lv_aload_n hx hb dL_law_740 rfl (lv_at hl 2 rfl) ?_
  refine lv_aload_n hx hb dL_law_741 rfl (lv_at hl 0 rfl) ?_
  refine lv_iload_n hx hb dL_law_742 rfl (lv_at hl 3 rfl) ?_
  refine lv_iconst (v := 1) hx hb dL_law_743 (by decide) ?_
  refine lv_iadd hx hb dL_law_744 ?_
  refine va_sld hx hb hX hbl hbA hI.2.2 h1 dL_law_745 ?_
  have hI := IW_swap2 (L := pcC cy A v r) (Y := pcM cy B w q) hI
  refine rw_v S (c_X8_gaieties l D cy B (pcC cy A v r) (lA0 s) w q (xs (x3 + 1).toNatClampNeg) y w1 q1 e2) (cwV 1 hts gL_law_X8_gaieties rfl rfl rfl (by decide +kernel) ⟨Nat.le_of_ble_eq_true rfl, Nat.le_of_ble_eq_true rfl⟩) hI hK hN (ci := 7) rfl atM_0 rfl rfl hl.1 rfl (Nat.le_of_ble_eq_true rfl) dL_law_746 ⟨Nat.le_of_ble_eq_true rfl, Nat.le_of_ble_eq_true rfl⟩ (fun H locs hI => ?_)
  have hI := IW_swap2 (L := pcM cy B w1 q1) (Y := pcC cy A v r) hI
  refine lv_icmp_eq (tgt := 1179) hx hb dL_law_749 (by decide) (fun _ => ?_) (fun c9 => absurd rfl c9)
  exact kk v r w1 q1 H _ ls hI hRl1 hl
set_option maxHeartbeats 4000000 in
set_option maxRecDepth 100000 in
theorem law_c20 {p : Program} {l : Launch} {e : Env} {s : State} {m : MethodId} {args : Array Value} {below : List Frame} {meth : Method} {c : Code} {D : va_G} {cy : Nat → ClassId} {A B : Nat → Nat} {b L : Nat} {xs : Nat → Int32} {Q : State → Prop} {Rl : RLT} (C : LCx p s m args c D cy b L xs) (hop : Op20 Rl) {v : V1} {r : V2} {w : V1} {q : V2} {H : Heap} {locs : List Loc} {ls : Array Slot} (hI : IW D (pcC cy A v r ++ pcM cy B w q) (lA0 s) s.heap H locs) (hRl : Rl v r w q) (x3 : Int32) (h1 : vp_in (x3 + 1) L) (h2 : vp_in (x3 + 2) L) (h3 : vp_in (x3 + 3) L) (h4 : vp_in (x3 + 4) L) (h5 : vp_in (x3 + 5) L) (hl : lv_has ls 4 [(0, .ref b), (1, .ref (A 0)), (2, .ref (B 0)), (3, .int x3)]) (kk : ∀ (v : V1) (r : V2) (w : V1) (q : V2) (H : Heap) (locs : List Loc) (ls : Array Slot), IW D (pcC cy A v r ++ pcM cy B w q) (lA0 s) s.heap H locs → Rl v r w q → lv_has ls 4 [(0, .ref b), (1, .ref (A 0)), (2, .ref (B 0)), (3, .int x3)] → W p l e room_1 s m args below meth c H locs 46 716 Q (F0 m 1179 ls [])) : W p l e room_1 s m args below meth c H locs 46 716 Q (F0 m 754 ls []) := by
  obtain ⟨hx, hb, hml, hown, hts, hX, hbl, hK, hN⟩ := C
  have hbA : ¬ (lA0 s) b := Nat.not_le.mpr hbl
  have S : CallFix p m c cL_law 4 s args wsL_law RL := ⟨hx, hb, hml, hown, hts⟩
  obtain ⟨y, w1, q1, e1, e2, hRl1⟩ := hop v r w q (xs (x3 + 1).toNatClampNeg) hRl
  refine lv_aload_n hx hb dL_law_754 rfl (lv_at hl 1 rfl) ?_
  refine lv_aload_n hx hb dL_law_755 rfl (lv_at hl 0 rfl) ?_
  refine lv_iload_n hx hb dL_law_756 rfl (lv_at hl 3 rfl) ?_
  refine lv_iconst (v := 1) hx hb dL_law_757 (by decide) ?_
  refine lv_iadd hx hb dL_law_758 ?_
  refine va_sld hx hb hX hbl hbA hI.2.2 h1 dL_law_759 ?_
  refine ro_v S (c_X7_kinds l D cy A (pcM cy B w q) (lA0 s) v r (xs (x3 + 1).toNatClampNeg) y e1) (cwV 1 hts gL_law_X7_kinds rfl rfl rfl (by decide +kernel) ⟨Nat.le_of_ble_eq_true rfl, Nat.le_of_ble_eq_true rfl⟩) hI hK hN (ci := 6) rfl atC_0 rfl rfl hl.1 rfl (Nat.le_of_ble_eq_true rfl) dL_law_760 ⟨Nat.le_of_ble_eq_true rfl, Nat.le_of_ble_eq_true rfl⟩ ?_
  refine lv_aload_n hx hb dL_law_763 rfl (lv_at hl 2 rfl) ?_
  refine lv_aload_n hx hb dL_law_764 rfl (lv_at hl 0 rfl) ?_
  refine lv_iload_n hx hb dL_law_765 rfl (lv_at hl 3 rfl) ?_
  refine lv_iconst (v := 1) hx hb dL_law_766 (by decide) ?_
  refine lv_iadd hx hb dL_law_767 ?_
  refine va_sld hx hb hX hbl hbA hI.2.2 h1 dL_law_768 ?_
  have hI := IW_swap2 (L := pcC cy A v r) (Y := pcM cy B w q) hI
  refine rw_v S (c_X8_kinds l D cy B (pcC cy A v r) (lA0 s) w q (xs (x3 + 1).toNatClampNeg) y w1 q1 e2) (cwV 1 hts gL_law_X8_kinds rfl rfl rfl (by decide +kernel) ⟨Nat.le_of_ble_eq_true rfl, Nat.le_of_ble_eq_true rfl⟩) hI hK hN (ci := 7) rfl atM_0 rfl rfl hl.1 rfl (Nat.le_of_ble_eq_true rfl) dL_law_769 ⟨Nat.le_of_ble_eq_true rfl, Nat.le_of_ble_eq_true rfl⟩ (fun H locs hI => ?_)
  have hI := IW_swap2 (L := pcM cy B w1 q1) (Y := pcC cy A v r) hI
  refine lv_icmp_eq (tgt := 1179) hx hb dL_law_772 (by decide) (fun _ => ?_) (fun c9 => absurd rfl c9)
  exact kk v r w1 q1 H _ ls hI hRl1 hl
set_option maxHeartbeats 4000000 in
set_option maxRecDepth 100000 in
theorem law_c21 {p : Program} {l : Launch} {e : Env} {s : State} {m : MethodId} {args : Array Value} {below : List Frame} {meth : Method} {c : Code} {D : va_G} {cy : Nat → ClassId} {A B : Nat → Nat} {b L : Nat} {xs : Nat → Int32} {Q : State → Prop} {Rl : RLT} (C : LCx p s m args c D cy b L xs) (hop : Op21 Rl) {v : V1} {r : V2} {w : V1} {q : V2} {H : Heap} {locs : List Loc} {ls : Array Slot} (hI : IW D (pcC cy A v r ++ pcM cy B w q) (lA0 s) s.heap H locs) (hRl : Rl v r w q) (x3 : Int32) (h1 : vp_in (x3 + 1) L) (h2 : vp_in (x3 + 2) L) (h3 : vp_in (x3 + 3) L) (h4 : vp_in (x3 + 4) L) (h5 : vp_in (x3 + 5) L) (hl : lv_has ls 4 [(0, .ref b), (1, .ref (A 0)), (2, .ref (B 0)), (3, .int x3)]) (kk : ∀ (v : V1) (r : V2) (w : V1) (q : V2) (H : Heap) (locs : List Loc) (ls : Array Slot), IW D (pcC cy A v r ++ pcM cy B w q) (lA0 s) s.heap H locs → Rl v r w q → lv_has ls 4 [(0, .ref b), (1, .ref (A 0)), (2, .ref (B 0)), (3, .int x3)] → W p l e room_1 s m args below meth c H locs 46 716 Q (F0 m 1179 ls [])) : W p l e room_1 s m args below meth c H locs 46 716 Q (F0 m 777 ls []) := by
  obtain ⟨hx, hb, hml, hown, hts, hX, hbl, hK, hN⟩ := C
  have hbA : ¬ (lA0 s) b := Nat.not_le.mpr hbl
  have S : CallFix p m c cL_law 4 s args wsL_law RL := ⟨hx, hb, hml, hown, hts⟩
  obtain ⟨y, w1, q1, e1, e2, hRl1⟩ := hop v r w q (xs (x3 + 1).toNatClampNeg) hRl
  refine lv_aload_n hx hb dL_law_777 rfl (lv_at hl 1 rfl) ?_
  refine lv_aload_n hx hb dL_law_778 rfl (lv_at hl 0 rfl) ?_
  refine lv_iload_n hx hb dL_law_779 rfl (lv_at hl 3 rfl) ?_
  refine lv_iconst (v := 1) hx hb dL_law_780 (by decide) ?_
  refine lv_iadd hx hb dL_law_781 ?_
  refine va_sld hx hb hX hbl hbA hI.2.2 h1 dL_law_782 ?_
  refine ro_v S (c_X7_wheres l D cy A (pcM cy B w q) (lA0 s) v r (xs (x3 + 1).toNatClampNeg) y e1) (cwV 1 hts gL_law_X7_wheres rfl rfl rfl (by decide +kernel) ⟨Nat.le_of_ble_eq_true rfl, Nat.le_of_ble_eq_true rfl⟩) hI hK hN (ci := 6) rfl atC_0 rfl rfl hl.1 rfl (Nat.le_of_ble_eq_true rfl) dL_law_783 ⟨Nat.le_of_ble_eq_true rfl, Nat.le_of_ble_eq_true rfl⟩ ?_
  refine lv_aload_n hx hb dL_law_786 rfl (lv_at hl 2 rfl) ?_
  refine lv_aload_n hx hb dL_law_787 rfl (lv_at hl 0 rfl) ?_
  refine lv_iload_n hx hb dL_law_788 rfl (lv_at hl 3 rfl) ?_
  refine lv_iconst (v := 1) hx hb dL_law_789 (by decide) ?_
  refine lv_iadd hx hb dL_law_790 ?_
  refine va_sld hx hb hX hbl hbA hI.2.2 h1 dL_law_791 ?_
  have hI := IW_swap2 (L := pcC cy A v r) (Y := pcM cy B w q) hI
  refine rw_v S (c_X8_wheres l D cy B (pcC cy A v r) (lA0 s) w q (xs (x3 + 1).toNatClampNeg) y w1 q1 e2) (cwV 1 hts gL_law_X8_wheres rfl rfl rfl (by decide +kernel) ⟨Nat.le_of_ble_eq_true rfl, Nat.le_of_ble_eq_true rfl⟩) hI hK hN (ci := 7) rfl atM_0 rfl rfl hl.1 rfl (Nat.le_of_ble_eq_true rfl) dL_law_792 ⟨Nat.le_of_ble_eq_true rfl, Nat.le_of_ble_eq_true rfl⟩ (fun H locs hI => ?_)
  have hI := IW_swap2 (L := pcM cy B w1 q1) (Y := pcC cy A v r) hI
  refine W.lcmp hx hb dL_law_795 ?_
  refine lv_if_eq (tgt := 1179) hx hb dL_law_796 (by decide) (fun _ => ?_) (fun c9 => absurd (lgc0 y) c9)
  exact kk v r w1 q1 H _ ls hI hRl1 hl
set_option maxHeartbeats 4000000 in
set_option maxRecDepth 100000 in
theorem law_c22 {p : Program} {l : Launch} {e : Env} {s : State} {m : MethodId} {args : Array Value} {below : List Frame} {meth : Method} {c : Code} {D : va_G} {cy : Nat → ClassId} {A B : Nat → Nat} {b L : Nat} {xs : Nat → Int32} {Q : State → Prop} {Rl : RLT} (C : LCx p s m args c D cy b L xs) (hop : Op22 Rl) {v : V1} {r : V2} {w : V1} {q : V2} {H : Heap} {locs : List Loc} {ls : Array Slot} (hI : IW D (pcC cy A v r ++ pcM cy B w q) (lA0 s) s.heap H locs) (hRl : Rl v r w q) (x3 : Int32) (h1 : vp_in (x3 + 1) L) (h2 : vp_in (x3 + 2) L) (h3 : vp_in (x3 + 3) L) (h4 : vp_in (x3 + 4) L) (h5 : vp_in (x3 + 5) L) (hl : lv_has ls 4 [(0, .ref b), (1, .ref (A 0)), (2, .ref (B 0)), (3, .int x3)]) (kk : ∀ (v : V1) (r : V2) (w : V1) (q : V2) (H : Heap) (locs : List Loc) (ls : Array Slot), IW D (pcC cy A v r ++ pcM cy B w q) (lA0 s) s.heap H locs → Rl v r w q → lv_has ls 4 [(0, .ref b), (1, .ref (A 0)), (2, .ref (B 0)), (3, .int x3)] → W p l e room_1 s m args below meth c H locs 46 716 Q (F0 m 1179 ls [])) : W p l e room_1 s m args below meth c H locs 46 716 Q (F0 m 801 ls []) := by
  obtain ⟨hx, hb, hml, hown, hts, hX, hbl, hK, hN⟩ := C
  have hbA : ¬ (lA0 s) b := Nat.not_le.mpr hbl
  have S : CallFix p m c cL_law 4 s args wsL_law RL := ⟨hx, hb, hml, hown, hts⟩
  obtain ⟨y, e1, e2⟩ := hop v r w q (xs (x3 + 1).toNatClampNeg) (xs (x3 + 2).toNatClampNeg) hRl
  refine lv_aload_n hx hb dL_law_801 rfl (lv_at hl 1 rfl) ?_
  refine lv_aload_n hx hb dL_law_802 rfl (lv_at hl 0 rfl) ?_
  refine lv_iload_n hx hb dL_law_803 rfl (lv_at hl 3 rfl) ?_
  refine lv_iconst (v := 1) hx hb dL_law_804 (by decide) ?_
  refine lv_iadd hx hb dL_law_805 ?_
  refine va_sld hx hb hX hbl hbA hI.2.2 h1 dL_law_806 ?_
  refine lv_aload_n hx hb dL_law_807 rfl (lv_at hl 0 rfl) ?_
  refine lv_iload_n hx hb dL_law_808 rfl (lv_at hl 3 rfl) ?_
  refine lv_iconst (v := 2) hx hb dL_law_809 (by decide) ?_
  refine lv_iadd hx hb dL_law_810 ?_
  refine va_sld hx hb hX hbl hbA hI.2.2 h2 dL_law_811 ?_
  refine ro_v S (c_X7_odds l D cy A (pcM cy B w q) (lA0 s) v r (xs (x3 + 1).toNatClampNeg) (xs (x3 + 2).toNatClampNeg) y e1) (cwV 2 hts gL_law_X7_odds rfl rfl rfl (by decide +kernel) ⟨Nat.le_of_ble_eq_true rfl, Nat.le_of_ble_eq_true rfl⟩) hI hK hN (ci := 6) rfl atC_0 rfl rfl hl.1 rfl (Nat.le_of_ble_eq_true rfl) dL_law_812 ⟨Nat.le_of_ble_eq_true rfl, Nat.le_of_ble_eq_true rfl⟩ ?_
  refine lv_aload_n hx hb dL_law_815 rfl (lv_at hl 2 rfl) ?_
  refine lv_aload_n hx hb dL_law_816 rfl (lv_at hl 0 rfl) ?_
  refine lv_iload_n hx hb dL_law_817 rfl (lv_at hl 3 rfl) ?_
  refine lv_iconst (v := 1) hx hb dL_law_818 (by decide) ?_
  refine lv_iadd hx hb dL_law_819 ?_
  refine va_sld hx hb hX hbl hbA hI.2.2 h1 dL_law_820 ?_
  refine lv_aload_n hx hb dL_law_821 rfl (lv_at hl 0 rfl) ?_
  refine lv_iload_n hx hb dL_law_822 rfl (lv_at hl 3 rfl) ?_
  refine lv_iconst (v := 2) hx hb dL_law_823 (by decide) ?_
  refine lv_iadd hx hb dL_law_824 ?_
  refine va_sld hx hb hX hbl hbA hI.2.2 h2 dL_law_825 ?_
  have hI := IW_swap2 (L := pcC cy A v r) (Y := pcM cy B w q) hI
  refine ro_v S (c_X8_odds l D cy B (pcC cy A v r) (lA0 s) w q (xs (x3 + 1).toNatClampNeg) (xs (x3 + 2).toNatClampNeg) y e2) (cwV 2 hts gL_law_X8_odds rfl rfl rfl (by decide +kernel) ⟨Nat.le_of_ble_eq_true rfl, Nat.le_of_ble_eq_true rfl⟩) hI hK hN (ci := 7) rfl atM_0 rfl rfl hl.1 rfl (Nat.le_of_ble_eq_true rfl) dL_law_826 ⟨Nat.le_of_ble_eq_true rfl, Nat.le_of_ble_eq_true rfl⟩ ?_
  have hI := IW_swap2 (L := pcM cy B w q) (Y := pcC cy A v r) hI
  refine W.lcmp hx hb dL_law_829 ?_
  refine lv_if_eq (tgt := 1179) hx hb dL_law_830 (by decide) (fun _ => ?_) (fun c9 => absurd (lgc0 y) c9)
  exact kk v r w q H _ ls hI hRl hl
set_option maxHeartbeats 4000000 in
set_option maxRecDepth 100000 in
theorem law_c23 {p : Program} {l : Launch} {e : Env} {s : State} {m : MethodId} {args : Array Value} {below : List Frame} {meth : Method} {c : Code} {D : va_G} {cy : Nat → ClassId} {A B : Nat → Nat} {b L : Nat} {xs : Nat → Int32} {Q : State → Prop} {Rl : RLT} (C : LCx p s m args c D cy b L xs) (hop : Op23 Rl) {v : V1} {r : V2} {w : V1} {q : V2} {H : Heap} {locs : List Loc} {ls : Array Slot} (hI : IW D (pcC cy A v r ++ pcM cy B w q) (lA0 s) s.heap H locs) (hRl : Rl v r w q) (x3 : Int32) (h1 : vp_in (x3 + 1) L) (h2 : vp_in (x3 + 2) L) (h3 : vp_in (x3 + 3) L) (h4 : vp_in (x3 + 4) L) (h5 : vp_in (x3 + 5) L) (hl : lv_has ls 4 [(0, .ref b), (1, .ref (A 0)), (2, .ref (B 0)), (3, .int x3)]) (kk : ∀ (v : V1) (r : V2) (w : V1) (q : V2) (H : Heap) (locs : List Loc) (ls : Array Slot), IW D (pcC cy A v r ++ pcM cy B w q) (lA0 s) s.heap H locs → Rl v r w q → lv_has ls 4 [(0, .ref b), (1, .ref (A 0)), (2, .ref (B 0)), (3, .int x3)] → W p l e room_1 s m args below meth c H locs 46 716 Q (F0 m 1179 ls [])) : W p l e room_1 s m args below meth c H locs 46 716 Q (F0 m 835 ls []) := by
  obtain ⟨hx, hb, hml, hown, hts, hX, hbl, hK, hN⟩ := C
  have hbA : ¬ (lA0 s) b := Nat.not_le.mpr hbl
  have S : CallFix p m c cL_law 4 s args wsL_law RL := ⟨hx, hb, hml, hown, hts⟩
  obtain ⟨y, v1, r1, w1, q1, e1, e2, hRl1⟩ := hop v r w q (xs (x3 + 1).toNatClampNeg) (xs (x3 + 2).toNatClampNeg) (xs (x3 + 3).toNatClampNeg) hRl
  refine lv_aload_n hx hb dL_law_835 rfl (lv_at hl 1 rfl) ?_
  refine lv_aload_n hx hb dL_law_836 rfl (lv_at hl 0 rfl) ?_
  refine lv_iload_n hx hb dL_law_837 rfl (lv_at hl 3 rfl) ?_
  refine lv_iconst (v := 1) hx hb dL_law_838 (by decide) ?_
  refine lv_iadd hx hb dL_law_839 ?_
  refine va_sld hx hb hX hbl hbA hI.2.2 h1 dL_law_840 ?_
  refine lv_aload_n hx hb dL_law_841 rfl (lv_at hl 0 rfl) ?_
  refine lv_iload_n hx hb dL_law_842 rfl (lv_at hl 3 rfl) ?_
  refine lv_iconst (v := 2) hx hb dL_law_843 (by decide) ?_
  refine lv_iadd hx hb dL_law_844 ?_
  refine va_sld hx hb hX hbl hbA hI.2.2 h2 dL_law_845 ?_
  refine lv_aload_n hx hb dL_law_846 rfl (lv_at hl 0 rfl) ?_
  refine lv_iload_n hx hb dL_law_847 rfl (lv_at hl 3 rfl) ?_
  refine lv_iconst (v := 3) hx hb dL_law_848 (by decide) ?_
  refine lv_iadd hx hb dL_law_849 ?_
  refine va_sld hx hb hX hbl hbA hI.2.2 h3 dL_law_850 ?_
  refine rw_v S (c_X7_sheet l D cy A (pcM cy B w q) (lA0 s) v r (xs (x3 + 1).toNatClampNeg) (xs (x3 + 2).toNatClampNeg) (xs (x3 + 3).toNatClampNeg) y v1 r1 e1) (cwV 3 hts gL_law_X7_sheet rfl rfl rfl (by decide +kernel) ⟨Nat.le_of_ble_eq_true rfl, Nat.le_of_ble_eq_true rfl⟩) hI hK hN (ci := 6) rfl atC_0 rfl rfl hl.1 rfl (Nat.le_of_ble_eq_true rfl) dL_law_851 ⟨Nat.le_of_ble_eq_true rfl, Nat.le_of_ble_eq_true rfl⟩ (fun H locs hI => ?_)
  refine lv_aload_n hx hb dL_law_854 rfl (lv_at hl 2 rfl) ?_
  refine lv_aload_n hx hb dL_law_855 rfl (lv_at hl 0 rfl) ?_
  refine lv_iload_n hx hb dL_law_856 rfl (lv_at hl 3 rfl) ?_
  refine lv_iconst (v := 1) hx hb dL_law_857 (by decide) ?_
  refine lv_iadd hx hb dL_law_858 ?_
  refine va_sld hx hb hX hbl hbA hI.2.2 h1 dL_law_859 ?_
  refine lv_aload_n hx hb dL_law_860 rfl (lv_at hl 0 rfl) ?_
  refine lv_iload_n hx hb dL_law_861 rfl (lv_at hl 3 rfl) ?_
  refine lv_iconst (v := 2) hx hb dL_law_862 (by decide) ?_
  refine lv_iadd hx hb dL_law_863 ?_
  refine va_sld hx hb hX hbl hbA hI.2.2 h2 dL_law_864 ?_
  refine lv_aload_n hx hb dL_law_865 rfl (lv_at hl 0 rfl) ?_
  refine lv_iload_n hx hb dL_law_866 rfl (lv_at hl 3 rfl) ?_
  refine lv_iconst (v := 3) hx hb dL_law_867 (by decide) ?_
  refine lv_iadd hx hb dL_law_868 ?_
  refine va_sld hx hb hX hbl hbA hI.2.2 h3 dL_law_869 ?_
  have hI := IW_swap2 (L := pcC cy A v1 r1) (Y := pcM cy B w q) hI
  refine rw_v S (c_X8_sheet l D cy B (pcC cy A v1 r1) (lA0 s) w q (xs (x3 + 1).toNatClampNeg) (xs (x3 + 2).toNatClampNeg) (xs (x3 + 3).toNatClampNeg) y w1 q1 e2) (cwV 3 hts gL_law_X8_sheet rfl rfl rfl (by decide +kernel) ⟨Nat.le_of_ble_eq_true rfl, Nat.le_of_ble_eq_true rfl⟩) hI hK hN (ci := 7) rfl atM_0 rfl rfl hl.1 rfl (Nat.le_of_ble_eq_true rfl) dL_law_870 ⟨Nat.le_of_ble_eq_true rfl, Nat.le_of_ble_eq_true rfl⟩ (fun H locs hI => ?_)
  have hI := IW_swap2 (L := pcM cy B w1 q1) (Y := pcC cy A v1 r1) hI
  refine lv_icmp_eq (tgt := 1179) hx hb dL_law_873 (by decide) (fun _ => ?_) (fun c9 => absurd rfl c9)
  exact kk v1 r1 w1 q1 H _ ls hI hRl1 hl
set_option maxHeartbeats 4000000 in
set_option maxRecDepth 100000 in
theorem law_c24 {p : Program} {l : Launch} {e : Env} {s : State} {m : MethodId} {args : Array Value} {below : List Frame} {meth : Method} {c : Code} {D : va_G} {cy : Nat → ClassId} {A B : Nat → Nat} {b L : Nat} {xs : Nat → Int32} {Q : State → Prop} {Rl : RLT} (C : LCx p s m args c D cy b L xs) (hop : Op24 Rl) {v : V1} {r : V2} {w : V1} {q : V2} {H : Heap} {locs : List Loc} {ls : Array Slot} (hI : IW D (pcC cy A v r ++ pcM cy B w q) (lA0 s) s.heap H locs) (hRl : Rl v r w q) (x3 : Int32) (h1 : vp_in (x3 + 1) L) (h2 : vp_in (x3 + 2) L) (h3 : vp_in (x3 + 3) L) (h4 : vp_in (x3 + 4) L) (h5 : vp_in (x3 + 5) L) (hl : lv_has ls 4 [(0, .ref b), (1, .ref (A 0)), (2, .ref (B 0)), (3, .int x3)]) (kk : ∀ (v : V1) (r : V2) (w : V1) (q : V2) (H : Heap) (locs : List Loc) (ls : Array Slot), IW D (pcC cy A v r ++ pcM cy B w q) (lA0 s) s.heap H locs → Rl v r w q → lv_has ls 4 [(0, .ref b), (1, .ref (A 0)), (2, .ref (B 0)), (3, .int x3)] → W p l e room_1 s m args below meth c H locs 46 716 Q (F0 m 1179 ls [])) : W p l e room_1 s m args below meth c H locs 46 716 Q (F0 m 878 ls []) := by
  obtain ⟨hx, hb, hml, hown, hts, hX, hbl, hK, hN⟩ := C
  have hbA : ¬ (lA0 s) b := Nat.not_le.mpr hbl
  have S : CallFix p m c cL_law 4 s args wsL_law RL := ⟨hx, hb, hml, hown, hts⟩
  obtain ⟨y, v1, r1, w1, q1, e1, e2, hRl1⟩ := hop v r w q (xs (x3 + 1).toNatClampNeg) hRl
  refine lv_aload_n hx hb dL_law_878 rfl (lv_at hl 1 rfl) ?_
  refine lv_aload_n hx hb dL_law_879 rfl (lv_at hl 0 rfl) ?_
  refine lv_iload_n hx hb dL_law_880 rfl (lv_at hl 3 rfl) ?_
  refine lv_iconst (v := 1) hx hb dL_law_881 (by decide) ?_
  refine lv_iadd hx hb dL_law_882 ?_
  refine va_sld hx hb hX hbl hbA hI.2.2 h1 dL_law_883 ?_
  refine rw_v S (c_X7_lose l D cy A (pcM cy B w q) (lA0 s) v r (xs (x3 + 1).toNatClampNeg) y v1 r1 e1) (cwV 1 hts gL_law_X7_lose rfl rfl rfl (by decide +kernel) ⟨Nat.le_of_ble_eq_true rfl, Nat.le_of_ble_eq_true rfl⟩) hI hK hN (ci := 6) rfl atC_0 rfl rfl hl.1 rfl (Nat.le_of_ble_eq_true rfl) dL_law_884 ⟨Nat.le_of_ble_eq_true rfl, Nat.le_of_ble_eq_true rfl⟩ (fun H locs hI => ?_)
  refine lv_aload_n hx hb dL_law_887 rfl (lv_at hl 2 rfl) ?_
  refine lv_aload_n hx hb dL_law_888 rfl (lv_at hl 0 rfl) ?_
  refine lv_iload_n hx hb dL_law_889 rfl (lv_at hl 3 rfl) ?_
  refine lv_iconst (v := 1) hx hb dL_law_890 (by decide) ?_
  refine lv_iadd hx hb dL_law_891 ?_
  refine va_sld hx hb hX hbl hbA hI.2.2 h1 dL_law_892 ?_
  have hI := IW_swap2 (L := pcC cy A v1 r1) (Y := pcM cy B w q) hI
  refine rw_v S (c_X8_lose l D cy B (pcC cy A v1 r1) (lA0 s) w q (xs (x3 + 1).toNatClampNeg) y w1 q1 e2) (cwV 1 hts gL_law_X8_lose rfl rfl rfl (by decide +kernel) ⟨Nat.le_of_ble_eq_true rfl, Nat.le_of_ble_eq_true rfl⟩) hI hK hN (ci := 7) rfl atM_0 rfl rfl hl.1 rfl (Nat.le_of_ble_eq_true rfl) dL_law_893 ⟨Nat.le_of_ble_eq_true rfl, Nat.le_of_ble_eq_true rfl⟩ (fun H locs hI => ?_)
  have hI := IW_swap2 (L := pcM cy B w1 q1) (Y := pcC cy A v1 r1) hI
  refine lv_icmp_eq (tgt := 1179) hx hb dL_law_896 (by decide) (fun _ => ?_) (fun c9 => absurd rfl c9)
  exact kk v1 r1 w1 q1 H _ ls hI hRl1 hl
set_option maxHeartbeats 4000000 in
set_option maxRecDepth 100000 in
theorem law_c25 {p : Program} {l : Launch} {e : Env} {s : State} {m : MethodId} {args : Array Value} {below : List Frame} {meth : Method} {c : Code} {D : va_G} {cy : Nat → ClassId} {A B : Nat → Nat} {b L : Nat} {xs : Nat → Int32} {Q : State → Prop} {Rl : RLT} (C : LCx p s m args c D cy b L xs) (hop : Op25 Rl) {v : V1} {r : V2} {w : V1} {q : V2} {H : Heap} {locs : List Loc} {ls : Array Slot} (hI : IW D (pcC cy A v r ++ pcM cy B w q) (lA0 s) s.heap H locs) (hRl : Rl v r w q) (x3 : Int32) (h1 : vp_in (x3 + 1) L) (h2 : vp_in (x3 + 2) L) (h3 : vp_in (x3 + 3) L) (h4 : vp_in (x3 + 4) L) (h5 : vp_in (x3 + 5) L) (hl : lv_has ls 4 [(0, .ref b), (1, .ref (A 0)), (2, .ref (B 0)), (3, .int x3)]) (kk : ∀ (v : V1) (r : V2) (w : V1) (q : V2) (H : Heap) (locs : List Loc) (ls : Array Slot), IW D (pcC cy A v r ++ pcM cy B w q) (lA0 s) s.heap H locs → Rl v r w q → lv_has ls 4 [(0, .ref b), (1, .ref (A 0)), (2, .ref (B 0)), (3, .int x3)] → W p l e room_1 s m args below meth c H locs 46 716 Q (F0 m 1179 ls [])) : W p l e room_1 s m args below meth c H locs 46 716 Q (F0 m 901 ls []) := by
  obtain ⟨hx, hb, hml, hown, hts, hX, hbl, hK, hN⟩ := C
  have hbA : ¬ (lA0 s) b := Nat.not_le.mpr hbl
  have S : CallFix p m c cL_law 4 s args wsL_law RL := ⟨hx, hb, hml, hown, hts⟩
  obtain ⟨y, v1, r1, w1, q1, e1, e2, hRl1⟩ := hop v r w q (xs (x3 + 1).toNatClampNeg) (xs (x3 + 2).toNatClampNeg) (xs (x3 + 3).toNatClampNeg) hRl
  refine lv_aload_n hx hb dL_law_901 rfl (lv_at hl 1 rfl) ?_
  refine lv_aload_n hx hb dL_law_902 rfl (lv_at hl 0 rfl) ?_
  refine lv_iload_n hx hb dL_law_903 rfl (lv_at hl 3 rfl) ?_
  refine lv_iconst (v := 1) hx hb dL_law_904 (by decide) ?_
  refine lv_iadd hx hb dL_law_905 ?_
  refine va_sld hx hb hX hbl hbA hI.2.2 h1 dL_law_906 ?_
  refine lv_aload_n hx hb dL_law_907 rfl (lv_at hl 0 rfl) ?_
  refine lv_iload_n hx hb dL_law_908 rfl (lv_at hl 3 rfl) ?_
  refine lv_iconst (v := 2) hx hb dL_law_909 (by decide) ?_
  refine lv_iadd hx hb dL_law_910 ?_
  refine va_sld hx hb hX hbl hbA hI.2.2 h2 dL_law_911 ?_
  refine lv_aload_n hx hb dL_law_912 rfl (lv_at hl 0 rfl) ?_
  refine lv_iload_n hx hb dL_law_913 rfl (lv_at hl 3 rfl) ?_
  refine lv_iconst (v := 3) hx hb dL_law_914 (by decide) ?_
  refine lv_iadd hx hb dL_law_915 ?_
  refine va_sld hx hb hX hbl hbA hI.2.2 h3 dL_law_916 ?_
  refine rw_v S (c_X7_put l D cy A (pcM cy B w q) (lA0 s) v r (xs (x3 + 1).toNatClampNeg) (xs (x3 + 2).toNatClampNeg) (xs (x3 + 3).toNatClampNeg) y v1 r1 e1) (cwV 3 hts gL_law_X7_put rfl rfl rfl (by decide +kernel) ⟨Nat.le_of_ble_eq_true rfl, Nat.le_of_ble_eq_true rfl⟩) hI hK hN (ci := 6) rfl atC_0 rfl rfl hl.1 rfl (Nat.le_of_ble_eq_true rfl) dL_law_917 ⟨Nat.le_of_ble_eq_true rfl, Nat.le_of_ble_eq_true rfl⟩ (fun H locs hI => ?_)
  refine lv_aload_n hx hb dL_law_920 rfl (lv_at hl 2 rfl) ?_
  refine lv_aload_n hx hb dL_law_921 rfl (lv_at hl 0 rfl) ?_
  refine lv_iload_n hx hb dL_law_922 rfl (lv_at hl 3 rfl) ?_
  refine lv_iconst (v := 1) hx hb dL_law_923 (by decide) ?_
  refine lv_iadd hx hb dL_law_924 ?_
  refine va_sld hx hb hX hbl hbA hI.2.2 h1 dL_law_925 ?_
  refine lv_aload_n hx hb dL_law_926 rfl (lv_at hl 0 rfl) ?_
  refine lv_iload_n hx hb dL_law_927 rfl (lv_at hl 3 rfl) ?_
  refine lv_iconst (v := 2) hx hb dL_law_928 (by decide) ?_
  refine lv_iadd hx hb dL_law_929 ?_
  refine va_sld hx hb hX hbl hbA hI.2.2 h2 dL_law_930 ?_
  refine lv_aload_n hx hb dL_law_931 rfl (lv_at hl 0 rfl) ?_
  refine lv_iload_n hx hb dL_law_932 rfl (lv_at hl 3 rfl) ?_
  refine lv_iconst (v := 3) hx hb dL_law_933 (by decide) ?_
  refine lv_iadd hx hb dL_law_934 ?_
  refine va_sld hx hb hX hbl hbA hI.2.2 h3 dL_law_935 ?_
  have hI := IW_swap2 (L := pcC cy A v1 r1) (Y := pcM cy B w q) hI
  refine rw_v S (c_X8_put l D cy B (pcC cy A v1 r1) (lA0 s) w q (xs (x3 + 1).toNatClampNeg) (xs (x3 + 2).toNatClampNeg) (xs (x3 + 3).toNatClampNeg) y w1 q1 e2) (cwV 3 hts gL_law_X8_put rfl rfl rfl (by decide +kernel) ⟨Nat.le_of_ble_eq_true rfl, Nat.le_of_ble_eq_true rfl⟩) hI hK hN (ci := 7) rfl atM_0 rfl rfl hl.1 rfl (Nat.le_of_ble_eq_true rfl) dL_law_936 ⟨Nat.le_of_ble_eq_true rfl, Nat.le_of_ble_eq_true rfl⟩ (fun H locs hI => ?_)
  have hI := IW_swap2 (L := pcM cy B w1 q1) (Y := pcC cy A v1 r1) hI
  refine lv_icmp_eq (tgt := 1179) hx hb dL_law_939 (by decide) (fun _ => ?_) (fun c9 => absurd rfl c9)
  exact kk v1 r1 w1 q1 H _ ls hI hRl1 hl
set_option maxHeartbeats 4000000 in
set_option maxRecDepth 100000 in
theorem law_c26 {p : Program} {l : Launch} {e : Env} {s : State} {m : MethodId} {args : Array Value} {below : List Frame} {meth : Method} {c : Code} {D : va_G} {cy : Nat → ClassId} {A B : Nat → Nat} {b L : Nat} {xs : Nat → Int32} {Q : State → Prop} {Rl : RLT} (C : LCx p s m args c D cy b L xs) (hop : Op26 Rl) {v : V1} {r : V2} {w : V1} {q : V2} {H : Heap} {locs : List Loc} {ls : Array Slot} (hI : IW D (pcC cy A v r ++ pcM cy B w q) (lA0 s) s.heap H locs) (hRl : Rl v r w q) (x3 : Int32) (h1 : vp_in (x3 + 1) L) (h2 : vp_in (x3 + 2) L) (h3 : vp_in (x3 + 3) L) (h4 : vp_in (x3 + 4) L) (h5 : vp_in (x3 + 5) L) (hl : lv_has ls 4 [(0, .ref b), (1, .ref (A 0)), (2, .ref (B 0)), (3, .int x3)]) (kk : ∀ (v : V1) (r : V2) (w : V1) (q : V2) (H : Heap) (locs : List Loc) (ls : Array Slot), IW D (pcC cy A v r ++ pcM cy B w q) (lA0 s) s.heap H locs → Rl v r w q → lv_has ls 4 [(0, .ref b), (1, .ref (A 0)), (2, .ref (B 0)), (3, .int x3)] → W p l e room_1 s m args below meth c H locs 46 716 Q (F0 m 1179 ls [])) : W p l e room_1 s m args below meth c H locs 46 716 Q (F0 m 944 ls []) := by
  obtain ⟨hx, hb, hml, hown, hts, hX, hbl, hK, hN⟩ := C
  have hbA : ¬ (lA0 s) b := Nat.not_le.mpr hbl
  have S : CallFix p m c cL_law 4 s args wsL_law RL := ⟨hx, hb, hml, hown, hts⟩
  obtain ⟨y, v1, r1, w1, q1, e1, e2, hRl1⟩ := hop v r w q (xs (x3 + 1).toNatClampNeg) (xs (x3 + 2).toNatClampNeg) (xs (x3 + 3).toNatClampNeg) hRl
  refine lv_aload_n hx hb dL_law_944 rfl (lv_at hl 1 rfl) ?_
  refine lv_aload_n hx hb dL_law_945 rfl (lv_at hl 0 rfl) ?_
  refine lv_iload_n hx hb dL_law_946 rfl (lv_at hl 3 rfl) ?_
  refine lv_iconst (v := 1) hx hb dL_law_947 (by decide) ?_
  refine lv_iadd hx hb dL_law_948 ?_
  refine va_sld hx hb hX hbl hbA hI.2.2 h1 dL_law_949 ?_
  refine lv_aload_n hx hb dL_law_950 rfl (lv_at hl 0 rfl) ?_
  refine lv_iload_n hx hb dL_law_951 rfl (lv_at hl 3 rfl) ?_
  refine lv_iconst (v := 2) hx hb dL_law_952 (by decide) ?_
  refine lv_iadd hx hb dL_law_953 ?_
  refine va_sld hx hb hX hbl hbA hI.2.2 h2 dL_law_954 ?_
  refine lv_aload_n hx hb dL_law_955 rfl (lv_at hl 0 rfl) ?_
  refine lv_iload_n hx hb dL_law_956 rfl (lv_at hl 3 rfl) ?_
  refine lv_iconst (v := 3) hx hb dL_law_957 (by decide) ?_
  refine lv_iadd hx hb dL_law_958 ?_
  refine va_sld hx hb hX hbl hbA hI.2.2 h3 dL_law_959 ?_
  refine rw_v S (c_X7_cell l D cy A (pcM cy B w q) (lA0 s) v r (xs (x3 + 1).toNatClampNeg) (xs (x3 + 2).toNatClampNeg) (xs (x3 + 3).toNatClampNeg) y v1 r1 e1) (cwV 3 hts gL_law_X7_cell rfl rfl rfl (by decide +kernel) ⟨Nat.le_of_ble_eq_true rfl, Nat.le_of_ble_eq_true rfl⟩) hI hK hN (ci := 6) rfl atC_0 rfl rfl hl.1 rfl (Nat.le_of_ble_eq_true rfl) dL_law_960 ⟨Nat.le_of_ble_eq_true rfl, Nat.le_of_ble_eq_true rfl⟩ (fun H locs hI => ?_)
  refine lv_aload_n hx hb dL_law_963 rfl (lv_at hl 2 rfl) ?_
  refine lv_aload_n hx hb dL_law_964 rfl (lv_at hl 0 rfl) ?_
  refine lv_iload_n hx hb dL_law_965 rfl (lv_at hl 3 rfl) ?_
  refine lv_iconst (v := 1) hx hb dL_law_966 (by decide) ?_
  refine lv_iadd hx hb dL_law_967 ?_
  refine va_sld hx hb hX hbl hbA hI.2.2 h1 dL_law_968 ?_
  refine lv_aload_n hx hb dL_law_969 rfl (lv_at hl 0 rfl) ?_
  refine lv_iload_n hx hb dL_law_970 rfl (lv_at hl 3 rfl) ?_
  refine lv_iconst (v := 2) hx hb dL_law_971 (by decide) ?_
  refine lv_iadd hx hb dL_law_972 ?_
  refine va_sld hx hb hX hbl hbA hI.2.2 h2 dL_law_973 ?_
  refine lv_aload_n hx hb dL_law_974 rfl (lv_at hl 0 rfl) ?_
  refine lv_iload_n hx hb dL_law_975 rfl (lv_at hl 3 rfl) ?_
  refine lv_iconst (v := 3) hx hb dL_law_976 (by decide) ?_
  refine lv_iadd hx hb dL_law_977 ?_
  refine va_sld hx hb hX hbl hbA hI.2.2 h3 dL_law_978 ?_
  have hI := IW_swap2 (L := pcC cy A v1 r1) (Y := pcM cy B w q) hI
  refine rw_v S (c_X8_cell l D cy B (pcC cy A v1 r1) (lA0 s) w q (xs (x3 + 1).toNatClampNeg) (xs (x3 + 2).toNatClampNeg) (xs (x3 + 3).toNatClampNeg) y w1 q1 e2) (cwV 3 hts gL_law_X8_cell rfl rfl rfl (by decide +kernel) ⟨Nat.le_of_ble_eq_true rfl, Nat.le_of_ble_eq_true rfl⟩) hI hK hN (ci := 7) rfl atM_0 rfl rfl hl.1 rfl (Nat.le_of_ble_eq_true rfl) dL_law_979 ⟨Nat.le_of_ble_eq_true rfl, Nat.le_of_ble_eq_true rfl⟩ (fun H locs hI => ?_)
  have hI := IW_swap2 (L := pcM cy B w1 q1) (Y := pcC cy A v1 r1) hI
  refine W.lcmp hx hb dL_law_982 ?_
  refine lv_if_eq (tgt := 1179) hx hb dL_law_983 (by decide) (fun _ => ?_) (fun c9 => absurd (lgc0 y) c9)
  exact kk v1 r1 w1 q1 H _ ls hI hRl1 hl
set_option maxHeartbeats 4000000 in
set_option maxRecDepth 100000 in
theorem law_c27 {p : Program} {l : Launch} {e : Env} {s : State} {m : MethodId} {args : Array Value} {below : List Frame} {meth : Method} {c : Code} {D : va_G} {cy : Nat → ClassId} {A B : Nat → Nat} {b L : Nat} {xs : Nat → Int32} {Q : State → Prop} {Rl : RLT} (C : LCx p s m args c D cy b L xs) (hop : Op27 Rl) {v : V1} {r : V2} {w : V1} {q : V2} {H : Heap} {locs : List Loc} {ls : Array Slot} (hI : IW D (pcC cy A v r ++ pcM cy B w q) (lA0 s) s.heap H locs) (hRl : Rl v r w q) (x3 : Int32) (h1 : vp_in (x3 + 1) L) (h2 : vp_in (x3 + 2) L) (h3 : vp_in (x3 + 3) L) (h4 : vp_in (x3 + 4) L) (h5 : vp_in (x3 + 5) L) (hl : lv_has ls 4 [(0, .ref b), (1, .ref (A 0)), (2, .ref (B 0)), (3, .int x3)]) (kk : ∀ (v : V1) (r : V2) (w : V1) (q : V2) (H : Heap) (locs : List Loc) (ls : Array Slot), IW D (pcC cy A v r ++ pcM cy B w q) (lA0 s) s.heap H locs → Rl v r w q → lv_has ls 4 [(0, .ref b), (1, .ref (A 0)), (2, .ref (B 0)), (3, .int x3)] → W p l e room_1 s m args below meth c H locs 46 716 Q (F0 m 1179 ls [])) : W p l e room_1 s m args below meth c H locs 46 716 Q (F0 m 988 ls []) := by
  obtain ⟨hx, hb, hml, hown, hts, hX, hbl, hK, hN⟩ := C
  have hbA : ¬ (lA0 s) b := Nat.not_le.mpr hbl
  have S : CallFix p m c cL_law 4 s args wsL_law RL := ⟨hx, hb, hml, hown, hts⟩
  obtain ⟨y, v1, r1, w1, q1, e1, e2, hRl1⟩ := hop v r w q (xs (x3 + 1).toNatClampNeg) (xs (x3 + 2).toNatClampNeg) (xs (x3 + 3).toNatClampNeg) (xs (x3 + 4).toNatClampNeg) (xs (x3 + 5).toNatClampNeg) hRl
  refine lv_aload_n hx hb dL_law_988 rfl (lv_at hl 1 rfl) ?_
  refine lv_aload_n hx hb dL_law_989 rfl (lv_at hl 0 rfl) ?_
  refine lv_iload_n hx hb dL_law_990 rfl (lv_at hl 3 rfl) ?_
  refine lv_iconst (v := 1) hx hb dL_law_991 (by decide) ?_
  refine lv_iadd hx hb dL_law_992 ?_
  refine va_sld hx hb hX hbl hbA hI.2.2 h1 dL_law_993 ?_
  refine lv_aload_n hx hb dL_law_994 rfl (lv_at hl 0 rfl) ?_
  refine lv_iload_n hx hb dL_law_995 rfl (lv_at hl 3 rfl) ?_
  refine lv_iconst (v := 2) hx hb dL_law_996 (by decide) ?_
  refine lv_iadd hx hb dL_law_997 ?_
  refine va_sld hx hb hX hbl hbA hI.2.2 h2 dL_law_998 ?_
  refine lv_aload_n hx hb dL_law_999 rfl (lv_at hl 0 rfl) ?_
  refine lv_iload_n hx hb dL_law_1000 rfl (lv_at hl 3 rfl) ?_
  refine lv_iconst (v := 3) hx hb dL_law_1001 (by decide) ?_
  refine lv_iadd hx hb dL_law_1002 ?_
  refine va_sld hx hb hX hbl hbA hI.2.2 h3 dL_law_1003 ?_
  refine lv_aload_n hx hb dL_law_1004 rfl (lv_at hl 0 rfl) ?_
  refine lv_iload_n hx hb dL_law_1005 rfl (lv_at hl 3 rfl) ?_
  refine lv_iconst (v := 4) hx hb dL_law_1006 (by decide) ?_
  refine lv_iadd hx hb dL_law_1007 ?_
  refine va_sld hx hb hX hbl hbA hI.2.2 h4 dL_law_1008 ?_
  refine lv_aload_n hx hb dL_law_1009 rfl (lv_at hl 0 rfl) ?_
  refine lv_iload_n hx hb dL_law_1010 rfl (lv_at hl 3 rfl) ?_
  refine lv_iconst (v := 5) hx hb dL_law_1011 (by decide) ?_
  refine lv_iadd hx hb dL_law_1012 ?_
  refine va_sld hx hb hX hbl hbA hI.2.2 h5 dL_law_1013 ?_
  refine rw_v S (c_X7_copy l D cy A (pcM cy B w q) (lA0 s) v r (xs (x3 + 1).toNatClampNeg) (xs (x3 + 2).toNatClampNeg) (xs (x3 + 3).toNatClampNeg) (xs (x3 + 4).toNatClampNeg) (xs (x3 + 5).toNatClampNeg) y v1 r1 e1) (cwV 5 hts gL_law_X7_copy rfl rfl rfl (by decide +kernel) ⟨Nat.le_of_ble_eq_true rfl, Nat.le_of_ble_eq_true rfl⟩) hI hK hN (ci := 6) rfl atC_0 rfl rfl hl.1 rfl (Nat.le_of_ble_eq_true rfl) dL_law_1014 ⟨Nat.le_of_ble_eq_true rfl, Nat.le_of_ble_eq_true rfl⟩ (fun H locs hI => ?_)
  refine lv_aload_n hx hb dL_law_1017 rfl (lv_at hl 2 rfl) ?_
  refine lv_aload_n hx hb dL_law_1018 rfl (lv_at hl 0 rfl) ?_
  refine lv_iload_n hx hb dL_law_1019 rfl (lv_at hl 3 rfl) ?_
  refine lv_iconst (v := 1) hx hb dL_law_1020 (by decide) ?_
  refine lv_iadd hx hb dL_law_1021 ?_
  refine va_sld hx hb hX hbl hbA hI.2.2 h1 dL_law_1022 ?_
  refine lv_aload_n hx hb dL_law_1023 rfl (lv_at hl 0 rfl) ?_
  refine lv_iload_n hx hb dL_law_1024 rfl (lv_at hl 3 rfl) ?_
  refine lv_iconst (v := 2) hx hb dL_law_1025 (by decide) ?_
  refine lv_iadd hx hb dL_law_1026 ?_
  refine va_sld hx hb hX hbl hbA hI.2.2 h2 dL_law_1027 ?_
  refine lv_aload_n hx hb dL_law_1028 rfl (lv_at hl 0 rfl) ?_
  refine lv_iload_n hx hb dL_law_1029 rfl (lv_at hl 3 rfl) ?_
  refine lv_iconst (v := 3) hx hb dL_law_1030 (by decide) ?_
  refine lv_iadd hx hb dL_law_1031 ?_
  refine va_sld hx hb hX hbl hbA hI.2.2 h3 dL_law_1032 ?_
  refine lv_aload_n hx hb dL_law_1033 rfl (lv_at hl 0 rfl) ?_
  refine lv_iload_n hx hb dL_law_1034 rfl (lv_at hl 3 rfl) ?_
  refine lv_iconst (v := 4) hx hb dL_law_1035 (by decide) ?_
  refine lv_iadd hx hb dL_law_1036 ?_
  refine va_sld hx hb hX hbl hbA hI.2.2 h4 dL_law_1037 ?_
  refine lv_aload_n hx hb dL_law_1038 rfl (lv_at hl 0 rfl) ?_
  refine lv_iload_n hx hb dL_law_1039 rfl (lv_at hl 3 rfl) ?_
  refine lv_iconst (v := 5) hx hb dL_law_1040 (by decide) ?_
  refine lv_iadd hx hb dL_law_1041 ?_
  refine va_sld hx hb hX hbl hbA hI.2.2 h5 dL_law_1042 ?_
  have hI := IW_swap2 (L := pcC cy A v1 r1) (Y := pcM cy B w q) hI
  refine rw_v S (c_X8_copy l D cy B (pcC cy A v1 r1) (lA0 s) w q (xs (x3 + 1).toNatClampNeg) (xs (x3 + 2).toNatClampNeg) (xs (x3 + 3).toNatClampNeg) (xs (x3 + 4).toNatClampNeg) (xs (x3 + 5).toNatClampNeg) y w1 q1 e2) (cwV 5 hts gL_law_X8_copy rfl rfl rfl (by decide +kernel) ⟨Nat.le_of_ble_eq_true rfl, Nat.le_of_ble_eq_true rfl⟩) hI hK hN (ci := 7) rfl atM_0 rfl rfl hl.1 rfl (Nat.le_of_ble_eq_true rfl) dL_law_1043 ⟨Nat.le_of_ble_eq_true rfl, Nat.le_of_ble_eq_true rfl⟩ (fun H locs hI => ?_)
  have hI := IW_swap2 (L := pcM cy B w1 q1) (Y := pcC cy A v1 r1) hI
  refine lv_icmp_eq (tgt := 1179) hx hb dL_law_1046 (by decide) (fun _ => ?_) (fun c9 => absurd rfl c9)
  exact kk v1 r1 w1 q1 H _ ls hI hRl1 hl
set_option maxHeartbeats 4000000 in
set_option maxRecDepth 100000 in
theorem law_c28 {p : Program} {l : Launch} {e : Env} {s : State} {m : MethodId} {args : Array Value} {below : List Frame} {meth : Method} {c : Code} {D : va_G} {cy : Nat → ClassId} {A B : Nat → Nat} {b L : Nat} {xs : Nat → Int32} {Q : State → Prop} {Rl : RLT} (C : LCx p s m args c D cy b L xs) (hop : Op28 Rl) {v : V1} {r : V2} {w : V1} {q : V2} {H : Heap} {locs : List Loc} {ls : Array Slot} (hI : IW D (pcC cy A v r ++ pcM cy B w q) (lA0 s) s.heap H locs) (hRl : Rl v r w q) (x3 : Int32) (h1 : vp_in (x3 + 1) L) (h2 : vp_in (x3 + 2) L) (h3 : vp_in (x3 + 3) L) (h4 : vp_in (x3 + 4) L) (h5 : vp_in (x3 + 5) L) (hl : lv_has ls 4 [(0, .ref b), (1, .ref (A 0)), (2, .ref (B 0)), (3, .int x3)]) (kk : ∀ (v : V1) (r : V2) (w : V1) (q : V2) (H : Heap) (locs : List Loc) (ls : Array Slot), IW D (pcC cy A v r ++ pcM cy B w q) (lA0 s) s.heap H locs → Rl v r w q → lv_has ls 4 [(0, .ref b), (1, .ref (A 0)), (2, .ref (B 0)), (3, .int x3)] → W p l e room_1 s m args below meth c H locs 46 716 Q (F0 m 1179 ls [])) : W p l e room_1 s m args below meth c H locs 46 716 Q (F0 m 1051 ls []) := by
  obtain ⟨hx, hb, hml, hown, hts, hX, hbl, hK, hN⟩ := C
  have hbA : ¬ (lA0 s) b := Nat.not_le.mpr hbl
  have S : CallFix p m c cL_law 4 s args wsL_law RL := ⟨hx, hb, hml, hown, hts⟩
  obtain ⟨y, v1, r1, w1, q1, e1, e2, hRl1⟩ := hop v r w q (xs (x3 + 1).toNatClampNeg) hRl
  refine lv_aload_n hx hb dL_law_1051 rfl (lv_at hl 1 rfl) ?_
  refine lv_aload_n hx hb dL_law_1052 rfl (lv_at hl 0 rfl) ?_
  refine lv_iload_n hx hb dL_law_1053 rfl (lv_at hl 3 rfl) ?_
  refine lv_iconst (v := 1) hx hb dL_law_1054 (by decide) ?_
  refine lv_iadd hx hb dL_law_1055 ?_
  refine va_sld hx hb hX hbl hbA hI.2.2 h1 dL_law_1056 ?_
  refine rw_v S (c_X7_tell l D cy A (pcM cy B w q) (lA0 s) v r (xs (x3 + 1).toNatClampNeg) y v1 r1 e1) (cwV 1 hts gL_law_X7_tell rfl rfl rfl (by decide +kernel) ⟨Nat.le_of_ble_eq_true rfl, Nat.le_of_ble_eq_true rfl⟩) hI hK hN (ci := 6) rfl atC_0 rfl rfl hl.1 rfl (Nat.le_of_ble_eq_true rfl) dL_law_1057 ⟨Nat.le_of_ble_eq_true rfl, Nat.le_of_ble_eq_true rfl⟩ (fun H locs hI => ?_)
  refine lv_aload_n hx hb dL_law_1060 rfl (lv_at hl 2 rfl) ?_
  refine lv_aload_n hx hb dL_law_1061 rfl (lv_at hl 0 rfl) ?_
  refine lv_iload_n hx hb dL_law_1062 rfl (lv_at hl 3 rfl) ?_
  refine lv_iconst (v := 1) hx hb dL_law_1063 (by decide) ?_
  refine lv_iadd hx hb dL_law_1064 ?_
  refine va_sld hx hb hX hbl hbA hI.2.2 h1 dL_law_1065 ?_
  have hI := IW_swap2 (L := pcC cy A v1 r1) (Y := pcM cy B w q) hI
  refine rw_v S (c_X8_tell l D cy B (pcC cy A v1 r1) (lA0 s) w q (xs (x3 + 1).toNatClampNeg) y w1 q1 e2) (cwV 1 hts gL_law_X8_tell rfl rfl rfl (by decide +kernel) ⟨Nat.le_of_ble_eq_true rfl, Nat.le_of_ble_eq_true rfl⟩) hI hK hN (ci := 7) rfl atM_0 rfl rfl hl.1 rfl (Nat.le_of_ble_eq_true rfl) dL_law_1066 ⟨Nat.le_of_ble_eq_true rfl, Nat.le_of_ble_eq_true rfl⟩ (fun H locs hI => ?_)
  have hI := IW_swap2 (L := pcM cy B w1 q1) (Y := pcC cy A v1 r1) hI
  refine lv_icmp_eq (tgt := 1179) hx hb dL_law_1069 (by decide) (fun _ => ?_) (fun c9 => absurd rfl c9)
  exact kk v1 r1 w1 q1 H _ ls hI hRl1 hl
set_option maxHeartbeats 4000000 in
set_option maxRecDepth 100000 in
theorem law_c29 {p : Program} {l : Launch} {e : Env} {s : State} {m : MethodId} {args : Array Value} {below : List Frame} {meth : Method} {c : Code} {D : va_G} {cy : Nat → ClassId} {A B : Nat → Nat} {b L : Nat} {xs : Nat → Int32} {Q : State → Prop} {Rl : RLT} (C : LCx p s m args c D cy b L xs) (hop : Op29 Rl) {v : V1} {r : V2} {w : V1} {q : V2} {H : Heap} {locs : List Loc} {ls : Array Slot} (hI : IW D (pcC cy A v r ++ pcM cy B w q) (lA0 s) s.heap H locs) (hRl : Rl v r w q) (x3 : Int32) (h1 : vp_in (x3 + 1) L) (h2 : vp_in (x3 + 2) L) (h3 : vp_in (x3 + 3) L) (h4 : vp_in (x3 + 4) L) (h5 : vp_in (x3 + 5) L) (hl : lv_has ls 4 [(0, .ref b), (1, .ref (A 0)), (2, .ref (B 0)), (3, .int x3)]) (kk : ∀ (v : V1) (r : V2) (w : V1) (q : V2) (H : Heap) (locs : List Loc) (ls : Array Slot), IW D (pcC cy A v r ++ pcM cy B w q) (lA0 s) s.heap H locs → Rl v r w q → lv_has ls 4 [(0, .ref b), (1, .ref (A 0)), (2, .ref (B 0)), (3, .int x3)] → W p l e room_1 s m args below meth c H locs 46 716 Q (F0 m 1179 ls [])) : W p l e room_1 s m args below meth c H locs 46 716 Q (F0 m 1074 ls []) := by
  obtain ⟨hx, hb, hml, hown, hts, hX, hbl, hK, hN⟩ := C
  have hbA : ¬ (lA0 s) b := Nat.not_le.mpr hbl
  have S : CallFix p m c cL_law 4 s args wsL_law RL := ⟨hx, hb, hml, hown, hts⟩
  obtain ⟨y, v1, r1, w1, q1, e1, e2, hRl1⟩ := hop v r w q (xs (x3 + 1).toNatClampNeg) hRl
  refine lv_aload_n hx hb dL_law_1074 rfl (lv_at hl 1 rfl) ?_
  refine lv_aload_n hx hb dL_law_1075 rfl (lv_at hl 0 rfl) ?_
  refine lv_iload_n hx hb dL_law_1076 rfl (lv_at hl 3 rfl) ?_
  refine lv_iconst (v := 1) hx hb dL_law_1077 (by decide) ?_
  refine lv_iadd hx hb dL_law_1078 ?_
  refine va_sld hx hb hX hbl hbA hI.2.2 h1 dL_law_1079 ?_
  refine rw_v S (c_X7_announce l D cy A (pcM cy B w q) (lA0 s) v r (xs (x3 + 1).toNatClampNeg) y v1 r1 e1) (cwV 1 hts gL_law_X7_announce rfl rfl rfl (by decide +kernel) ⟨Nat.le_of_ble_eq_true rfl, Nat.le_of_ble_eq_true rfl⟩) hI hK hN (ci := 6) rfl atC_0 rfl rfl hl.1 rfl (Nat.le_of_ble_eq_true rfl) dL_law_1080 ⟨Nat.le_of_ble_eq_true rfl, Nat.le_of_ble_eq_true rfl⟩ (fun H locs hI => ?_)
  refine lv_aload_n hx hb dL_law_1083 rfl (lv_at hl 2 rfl) ?_
  refine lv_aload_n hx hb dL_law_1084 rfl (lv_at hl 0 rfl) ?_
  refine lv_iload_n hx hb dL_law_1085 rfl (lv_at hl 3 rfl) ?_
  refine lv_iconst (v := 1) hx hb dL_law_1086 (by decide) ?_
  refine lv_iadd hx hb dL_law_1087 ?_
  refine va_sld hx hb hX hbl hbA hI.2.2 h1 dL_law_1088 ?_
  have hI := IW_swap2 (L := pcC cy A v1 r1) (Y := pcM cy B w q) hI
  refine rw_v S (c_X8_announce l D cy B (pcC cy A v1 r1) (lA0 s) w q (xs (x3 + 1).toNatClampNeg) y w1 q1 e2) (cwV 1 hts gL_law_X8_announce rfl rfl rfl (by decide +kernel) ⟨Nat.le_of_ble_eq_true rfl, Nat.le_of_ble_eq_true rfl⟩) hI hK hN (ci := 7) rfl atM_0 rfl rfl hl.1 rfl (Nat.le_of_ble_eq_true rfl) dL_law_1089 ⟨Nat.le_of_ble_eq_true rfl, Nat.le_of_ble_eq_true rfl⟩ (fun H locs hI => ?_)
  have hI := IW_swap2 (L := pcM cy B w1 q1) (Y := pcC cy A v1 r1) hI
  refine lv_icmp_eq (tgt := 1179) hx hb dL_law_1092 (by decide) (fun _ => ?_) (fun c9 => absurd rfl c9)
  exact kk v1 r1 w1 q1 H _ ls hI hRl1 hl
set_option maxHeartbeats 4000000 in
set_option maxRecDepth 100000 in
theorem law_c30 {p : Program} {l : Launch} {e : Env} {s : State} {m : MethodId} {args : Array Value} {below : List Frame} {meth : Method} {c : Code} {D : va_G} {cy : Nat → ClassId} {A B : Nat → Nat} {b L : Nat} {xs : Nat → Int32} {Q : State → Prop} {Rl : RLT} (C : LCx p s m args c D cy b L xs) (hop : Op30 Rl) {v : V1} {r : V2} {w : V1} {q : V2} {H : Heap} {locs : List Loc} {ls : Array Slot} (hI : IW D (pcC cy A v r ++ pcM cy B w q) (lA0 s) s.heap H locs) (hRl : Rl v r w q) (x3 : Int32) (h1 : vp_in (x3 + 1) L) (h2 : vp_in (x3 + 2) L) (h3 : vp_in (x3 + 3) L) (h4 : vp_in (x3 + 4) L) (h5 : vp_in (x3 + 5) L) (hl : lv_has ls 4 [(0, .ref b), (1, .ref (A 0)), (2, .ref (B 0)), (3, .int x3)]) (kk : ∀ (v : V1) (r : V2) (w : V1) (q : V2) (H : Heap) (locs : List Loc) (ls : Array Slot), IW D (pcC cy A v r ++ pcM cy B w q) (lA0 s) s.heap H locs → Rl v r w q → lv_has ls 4 [(0, .ref b), (1, .ref (A 0)), (2, .ref (B 0)), (3, .int x3)] → W p l e room_1 s m args below meth c H locs 46 716 Q (F0 m 1179 ls [])) : W p l e room_1 s m args below meth c H locs 46 716 Q (F0 m 1097 ls []) := by
  obtain ⟨hx, hb, hml, hown, hts, hX, hbl, hK, hN⟩ := C
  have hbA : ¬ (lA0 s) b := Nat.not_le.mpr hbl
  have S : CallFix p m c cL_law 4 s args wsL_law RL := ⟨hx, hb, hml, hown, hts⟩
  obtain ⟨y, v1, r1, w1, q1, e1, e2, hRl1⟩ := hop v r w q (xs (x3 + 1).toNatClampNeg) (xs (x3 + 2).toNatClampNeg) hRl
  refine lv_aload_n hx hb dL_law_1097 rfl (lv_at hl 1 rfl) ?_
  refine lv_aload_n hx hb dL_law_1098 rfl (lv_at hl 0 rfl) ?_
  refine lv_iload_n hx hb dL_law_1099 rfl (lv_at hl 3 rfl) ?_
  refine lv_iconst (v := 1) hx hb dL_law_1100 (by decide) ?_
  refine lv_iadd hx hb dL_law_1101 ?_
  refine va_sld hx hb hX hbl hbA hI.2.2 h1 dL_law_1102 ?_
  refine lv_aload_n hx hb dL_law_1103 rfl (lv_at hl 0 rfl) ?_
  refine lv_iload_n hx hb dL_law_1104 rfl (lv_at hl 3 rfl) ?_
  refine lv_iconst (v := 2) hx hb dL_law_1105 (by decide) ?_
  refine lv_iadd hx hb dL_law_1106 ?_
  refine va_sld hx hb hX hbl hbA hI.2.2 h2 dL_law_1107 ?_
  refine rw_v S (c_X7_as l D cy A (pcM cy B w q) (lA0 s) v r (xs (x3 + 1).toNatClampNeg) (xs (x3 + 2).toNatClampNeg) y v1 r1 e1) (cwV 2 hts gL_law_X7_as rfl rfl rfl (by decide +kernel) ⟨Nat.le_of_ble_eq_true rfl, Nat.le_of_ble_eq_true rfl⟩) hI hK hN (ci := 6) rfl atC_0 rfl rfl hl.1 rfl (Nat.le_of_ble_eq_true rfl) dL_law_1108 ⟨Nat.le_of_ble_eq_true rfl, Nat.le_of_ble_eq_true rfl⟩ (fun H locs hI => ?_)
  refine lv_aload_n hx hb dL_law_1111 rfl (lv_at hl 2 rfl) ?_
  refine lv_aload_n hx hb dL_law_1112 rfl (lv_at hl 0 rfl) ?_
  refine lv_iload_n hx hb dL_law_1113 rfl (lv_at hl 3 rfl) ?_
  refine lv_iconst (v := 1) hx hb dL_law_1114 (by decide) ?_
  refine lv_iadd hx hb dL_law_1115 ?_
  refine va_sld hx hb hX hbl hbA hI.2.2 h1 dL_law_1116 ?_
  refine lv_aload_n hx hb dL_law_1117 rfl (lv_at hl 0 rfl) ?_
  refine lv_iload_n hx hb dL_law_1118 rfl (lv_at hl 3 rfl) ?_
  refine lv_iconst (v := 2) hx hb dL_law_1119 (by decide) ?_
  refine lv_iadd hx hb dL_law_1120 ?_
  refine va_sld hx hb hX hbl hbA hI.2.2 h2 dL_law_1121 ?_
  have hI := IW_swap2 (L := pcC cy A v1 r1) (Y := pcM cy B w q) hI
  refine rw_v S (c_X8_as l D cy B (pcC cy A v1 r1) (lA0 s) w q (xs (x3 + 1).toNatClampNeg) (xs (x3 + 2).toNatClampNeg) y w1 q1 e2) (cwV 2 hts gL_law_X8_as rfl rfl rfl (by decide +kernel) ⟨Nat.le_of_ble_eq_true rfl, Nat.le_of_ble_eq_true rfl⟩) hI hK hN (ci := 7) rfl atM_0 rfl rfl hl.1 rfl (Nat.le_of_ble_eq_true rfl) dL_law_1122 ⟨Nat.le_of_ble_eq_true rfl, Nat.le_of_ble_eq_true rfl⟩ (fun H locs hI => ?_)
  have hI := IW_swap2 (L := pcM cy B w1 q1) (Y := pcC cy A v1 r1) hI
  refine lv_icmp_eq (tgt := 1179) hx hb dL_law_1125 (by decide) (fun _ => ?_) (fun c9 => absurd rfl c9)
  exact kk v1 r1 w1 q1 H _ ls hI hRl1 hl
set_option maxHeartbeats 4000000 in
set_option maxRecDepth 100000 in
theorem law_c31 {p : Program} {l : Launch} {e : Env} {s : State} {m : MethodId} {args : Array Value} {below : List Frame} {meth : Method} {c : Code} {D : va_G} {cy : Nat → ClassId} {A B : Nat → Nat} {b L : Nat} {xs : Nat → Int32} {Q : State → Prop} {Rl : RLT} (C : LCx p s m args c D cy b L xs) (hop : Op31 Rl) {v : V1} {r : V2} {w : V1} {q : V2} {H : Heap} {locs : List Loc} {ls : Array Slot} (hI : IW D (pcC cy A v r ++ pcM cy B w q) (lA0 s) s.heap H locs) (hRl : Rl v r w q) (x3 : Int32) (h1 : vp_in (x3 + 1) L) (h2 : vp_in (x3 + 2) L) (h3 : vp_in (x3 + 3) L) (h4 : vp_in (x3 + 4) L) (h5 : vp_in (x3 + 5) L) (hl : lv_has ls 4 [(0, .ref b), (1, .ref (A 0)), (2, .ref (B 0)), (3, .int x3)]) (kk : ∀ (v : V1) (r : V2) (w : V1) (q : V2) (H : Heap) (locs : List Loc) (ls : Array Slot), IW D (pcC cy A v r ++ pcM cy B w q) (lA0 s) s.heap H locs → Rl v r w q → lv_has ls 4 [(0, .ref b), (1, .ref (A 0)), (2, .ref (B 0)), (3, .int x3)] → W p l e room_1 s m args below meth c H locs 46 716 Q (F0 m 1179 ls [])) : W p l e room_1 s m args below meth c H locs 46 716 Q (F0 m 1130 ls []) := by
  obtain ⟨hx, hb, hml, hown, hts, hX, hbl, hK, hN⟩ := C
  have hbA : ¬ (lA0 s) b := Nat.not_le.mpr hbl
  have S : CallFix p m c cL_law 4 s args wsL_law RL := ⟨hx, hb, hml, hown, hts⟩
  obtain ⟨y, e1, e2⟩ := hop v r w q hRl
  refine lv_aload_n hx hb dL_law_1130 rfl (lv_at hl 1 rfl) ?_
  refine ro_v S (c_X7_trace l D cy A (pcM cy B w q) (lA0 s) v r y e1) (cwV 0 hts gL_law_X7_trace rfl rfl rfl (by decide +kernel) ⟨Nat.le_of_ble_eq_true rfl, Nat.le_of_ble_eq_true rfl⟩) hI hK hN (ci := 6) rfl atC_0 rfl rfl hl.1 rfl (Nat.le_of_ble_eq_true rfl) dL_law_1131 ⟨Nat.le_of_ble_eq_true rfl, Nat.le_of_ble_eq_true rfl⟩ ?_
  refine lv_aload_n hx hb dL_law_1134 rfl (lv_at hl 2 rfl) ?_
  have hI := IW_swap2 (L := pcC cy A v r) (Y := pcM cy B w q) hI
  refine ro_v S (c_X8_trace l D cy B (pcC cy A v r) (lA0 s) w q y e2) (cwV 0 hts gL_law_X8_trace rfl rfl rfl (by decide +kernel) ⟨Nat.le_of_ble_eq_true rfl, Nat.le_of_ble_eq_true rfl⟩) hI hK hN (ci := 7) rfl atM_0 rfl rfl hl.1 rfl (Nat.le_of_ble_eq_true rfl) dL_law_1135 ⟨Nat.le_of_ble_eq_true rfl, Nat.le_of_ble_eq_true rfl⟩ ?_
  have hI := IW_swap2 (L := pcM cy B w q) (Y := pcC cy A v r) hI
  refine lv_icmp_eq (tgt := 1179) hx hb dL_law_1138 (by decide) (fun _ => ?_) (fun c9 => absurd rfl c9)
  exact kk v r w q H _ ls hI hRl hl
set_option maxHeartbeats 4000000 in
set_option maxRecDepth 100000 in
theorem law_c32 {p : Program} {l : Launch} {e : Env} {s : State} {m : MethodId} {args : Array Value} {below : List Frame} {meth : Method} {c : Code} {D : va_G} {cy : Nat → ClassId} {A B : Nat → Nat} {b L : Nat} {xs : Nat → Int32} {Q : State → Prop} {Rl : RLT} (C : LCx p s m args c D cy b L xs) (hop : Op32 Rl) {v : V1} {r : V2} {w : V1} {q : V2} {H : Heap} {locs : List Loc} {ls : Array Slot} (hI : IW D (pcC cy A v r ++ pcM cy B w q) (lA0 s) s.heap H locs) (hRl : Rl v r w q) (x3 : Int32) (h1 : vp_in (x3 + 1) L) (h2 : vp_in (x3 + 2) L) (h3 : vp_in (x3 + 3) L) (h4 : vp_in (x3 + 4) L) (h5 : vp_in (x3 + 5) L) (hl : lv_has ls 4 [(0, .ref b), (1, .ref (A 0)), (2, .ref (B 0)), (3, .int x3)]) (kk : ∀ (v : V1) (r : V2) (w : V1) (q : V2) (H : Heap) (locs : List Loc) (ls : Array Slot), IW D (pcC cy A v r ++ pcM cy B w q) (lA0 s) s.heap H locs → Rl v r w q → lv_has ls 4 [(0, .ref b), (1, .ref (A 0)), (2, .ref (B 0)), (3, .int x3)] → W p l e room_1 s m args below meth c H locs 46 716 Q (F0 m 1179 ls [])) : W p l e room_1 s m args below meth c H locs 46 716 Q (F0 m 1143 ls []) := by
  obtain ⟨hx, hb, hml, hown, hts, hX, hbl, hK, hN⟩ := C
  have hbA : ¬ (lA0 s) b := Nat.not_le.mpr hbl
  have S : CallFix p m c cL_law 4 s args wsL_law RL := ⟨hx, hb, hml, hown, hts⟩
  obtain ⟨y, e1, e2⟩ := hop v r w q hRl
  refine lv_aload_n hx hb dL_law_1143 rfl (lv_at hl 1 rfl) ?_
  refine ro_v S (c_X7_fault l D cy A (pcM cy B w q) (lA0 s) v r y e1) (cwV 0 hts gL_law_X7_fault rfl rfl rfl (by decide +kernel) ⟨Nat.le_of_ble_eq_true rfl, Nat.le_of_ble_eq_true rfl⟩) hI hK hN (ci := 6) rfl atC_0 rfl rfl hl.1 rfl (Nat.le_of_ble_eq_true rfl) dL_law_1144 ⟨Nat.le_of_ble_eq_true rfl, Nat.le_of_ble_eq_true rfl⟩ ?_
  refine lv_aload_n hx hb dL_law_1147 rfl (lv_at hl 2 rfl) ?_
  have hI := IW_swap2 (L := pcC cy A v r) (Y := pcM cy B w q) hI
  refine ro_v S (c_X8_fault l D cy B (pcC cy A v r) (lA0 s) w q y e2) (cwV 0 hts gL_law_X8_fault rfl rfl rfl (by decide +kernel) ⟨Nat.le_of_ble_eq_true rfl, Nat.le_of_ble_eq_true rfl⟩) hI hK hN (ci := 7) rfl atM_0 rfl rfl hl.1 rfl (Nat.le_of_ble_eq_true rfl) dL_law_1148 ⟨Nat.le_of_ble_eq_true rfl, Nat.le_of_ble_eq_true rfl⟩ ?_
  have hI := IW_swap2 (L := pcM cy B w q) (Y := pcC cy A v r) hI
  refine lv_icmp_eq (tgt := 1179) hx hb dL_law_1151 (by decide) (fun _ => ?_) (fun c9 => absurd rfl c9)
  exact kk v r w q H _ ls hI hRl hl
set_option maxHeartbeats 4000000 in
set_option maxRecDepth 100000 in
theorem law_c33 {p : Program} {l : Launch} {e : Env} {s : State} {m : MethodId} {args : Array Value} {below : List Frame} {meth : Method} {c : Code} {D : va_G} {cy : Nat → ClassId} {A B : Nat → Nat} {b L : Nat} {xs : Nat → Int32} {Q : State → Prop} {Rl : RLT} (C : LCx p s m args c D cy b L xs) (hop : Op33 Rl) {v : V1} {r : V2} {w : V1} {q : V2} {H : Heap} {locs : List Loc} {ls : Array Slot} (hI : IW D (pcC cy A v r ++ pcM cy B w q) (lA0 s) s.heap H locs) (hRl : Rl v r w q) (x3 : Int32) (h1 : vp_in (x3 + 1) L) (h2 : vp_in (x3 + 2) L) (h3 : vp_in (x3 + 3) L) (h4 : vp_in (x3 + 4) L) (h5 : vp_in (x3 + 5) L) (hl : lv_has ls 4 [(0, .ref b), (1, .ref (A 0)), (2, .ref (B 0)), (3, .int x3)]) (kk : ∀ (v : V1) (r : V2) (w : V1) (q : V2) (H : Heap) (locs : List Loc) (ls : Array Slot), IW D (pcC cy A v r ++ pcM cy B w q) (lA0 s) s.heap H locs → Rl v r w q → lv_has ls 4 [(0, .ref b), (1, .ref (A 0)), (2, .ref (B 0)), (3, .int x3)] → W p l e room_1 s m args below meth c H locs 46 716 Q (F0 m 1179 ls [])) : W p l e room_1 s m args below meth c H locs 46 716 Q (F0 m 1156 ls []) := by
  obtain ⟨hx, hb, hml, hown, hts, hX, hbl, hK, hN⟩ := C
  have hbA : ¬ (lA0 s) b := Nat.not_le.mpr hbl
  have S : CallFix p m c cL_law 4 s args wsL_law RL := ⟨hx, hb, hml, hown, hts⟩
  obtain ⟨y, e1, e2⟩ := hop v r w q (xs (x3 + 1).toNatClampNeg) hRl
  refine lv_aload_n hx hb dL_law_1156 rfl (lv_at hl 1 rfl) ?_
  refine lv_aload_n hx hb dL_law_1157 rfl (lv_at hl 0 rfl) ?_
  refine lv_iload_n hx hb dL_law_1158 rfl (lv_at hl 3 rfl) ?_
  refine lv_iconst (v := 1) hx hb dL_law_1159 (by decide) ?_
  refine lv_iadd hx hb dL_law_1160 ?_
  refine va_sld hx hb hX hbl hbA hI.2.2 h1 dL_law_1161 ?_
  refine ro_v S (c_X7_many l D cy A (pcM cy B w q) (lA0 s) v r (xs (x3 + 1).toNatClampNeg) y e1) (cwV 1 hts gL_law_X7_many rfl rfl rfl (by decide +kernel) ⟨Nat.le_of_ble_eq_true rfl, Nat.le_of_ble_eq_true rfl⟩) hI hK hN (ci := 6) rfl atC_0 rfl rfl hl.1 rfl (Nat.le_of_ble_eq_true rfl) dL_law_1162 ⟨Nat.le_of_ble_eq_true rfl, Nat.le_of_ble_eq_true rfl⟩ ?_
  refine lv_aload_n hx hb dL_law_1165 rfl (lv_at hl 2 rfl) ?_
  refine lv_aload_n hx hb dL_law_1166 rfl (lv_at hl 0 rfl) ?_
  refine lv_iload_n hx hb dL_law_1167 rfl (lv_at hl 3 rfl) ?_
  refine lv_iconst (v := 1) hx hb dL_law_1168 (by decide) ?_
  refine lv_iadd hx hb dL_law_1169 ?_
  refine va_sld hx hb hX hbl hbA hI.2.2 h1 dL_law_1170 ?_
  have hI := IW_swap2 (L := pcC cy A v r) (Y := pcM cy B w q) hI
  refine ro_v S (c_X8_many l D cy B (pcC cy A v r) (lA0 s) w q (xs (x3 + 1).toNatClampNeg) y e2) (cwV 1 hts gL_law_X8_many rfl rfl rfl (by decide +kernel) ⟨Nat.le_of_ble_eq_true rfl, Nat.le_of_ble_eq_true rfl⟩) hI hK hN (ci := 7) rfl atM_0 rfl rfl hl.1 rfl (Nat.le_of_ble_eq_true rfl) dL_law_1171 ⟨Nat.le_of_ble_eq_true rfl, Nat.le_of_ble_eq_true rfl⟩ ?_
  have hI := IW_swap2 (L := pcM cy B w q) (Y := pcC cy A v r) hI
  refine lv_icmp_eq (tgt := 1179) hx hb dL_law_1174 (by decide) (fun _ => ?_) (fun c9 => absurd rfl c9)
  exact kk v r w q H _ ls hI hRl hl
