abbrev rm_X7_failed : Room := { frames := 0, cells := 0, slots := 0, locals := 0 }
def f_X7_failed (v : Nat → Int32) (r : Nat → Nat → Int32) (a1 : Int32) : Option (Int32 × ST) := some (((-10) - a1), ((upd v 1 a1), r))
set_option maxHeartbeats 4000000 in
set_option maxRecDepth 100000 in
theorem c_X7_failed (l : Launch) (D : va_G) (cy : Nat → ClassId) (A : Nat → Nat) (X : va_W) (A0 : Nat → Prop) (v : Nat → Int32) (r : Nat → Nat → Int32) (a1 : Int32) (res : Int32) (v2 : Nat → Int32) (r2 : Nat → Nat → Int32) (hres : f_X7_failed v r a1 = some (res, (v2, r2))) : Met l yX7_failed wsX7_failed rm_X7_failed (va_Pc [.ref (A 0), .int a1] (GW D (tyC cy) (pcC cy A v r ++ X) A0)) (QW (some (.int res)) (GW D (tyC cy) (pcC cy A v2 r2 ++ X) A0) A0) 0 0 A0 := by
  refine Met.ofW (cc := cX7_failed) (maxL := 2) (ret := (some .int)) (by decide) rfl ?_
  intro p e s m args below meth c s₁ B hml hv
  obtain ⟨hargs, hP, hK, hD0, hN⟩ := hv
  have hx := B.exec
  have hb := B.bytes
  have hr := B.returns
  have hts := atoms_spec (ws := wsX7_failed) B.pre
  have hown : s.vm.findClass RX7 = some m.cls := findClass_of_methodNamed B.named
  have hlocks := B.notSynchronized
  have hI : IW D (pcC cy A v r ++ X) A0 s.heap s.heap [] := ⟨hP, hD0, va_S.rf⟩
  have in7 : ∀ w ∈ wsX70, w ∈ wsX7_failed := fun _ h => List.mem_cons_of_mem _ (List.mem_append_right _ h)
  have hl := lv_entry ([.ref (A 0), .int a1]) (n := 2) (Nat.le_of_ble_eq_true rfl)
  have hE : entryFrame m args 2 = F0 m 0 ((lg_sl ([.ref (A 0), .int a1]) ++ List.replicate (2 - (lg_sl ([.ref (A 0), .int a1])).length) Slot.unset).toArray) [] := by rw [hargs]; exact lg_entry_eq m [.ref (A 0), .int a1] 2
  rw [hE]
  generalize (lg_sl ([.ref (A 0), .int a1]) ++ List.replicate (2 - (lg_sl ([.ref (A 0), .int a1])).length) Slot.unset).toArray = ls at hl ⊢
  have hl : lv_has ls 2 [(0, .ref (A 0)), (1, .int a1)] := hl
  unfold f_X7_failed at hres
  refine lv_aload_n hx hb dX7_failed_0 rfl (lv_at hl 0 rfl) ?_
  refine lv_iload_n hx hb dX7_failed_1 rfl (lv_at hl 1 rfl) ?_
  refine pC_X7_lastFault hx hb hts in7 hown hK hI (hts (.fieldLink RX7 52 "TrickHouse" "lastFault" "I") (by decide +kernel)) dX7_failed_2 (fun H locs hI => ?_)
  refine lv_bipush (v := (-10)) hx hb dX7_failed_5 (by decide) ?_
  refine lv_iload_n hx hb dX7_failed_7 rfl (lv_at hl 1 rfl) ?_
  refine lv_isub hx hb dX7_failed_8 ?_
  obtain ⟨rfl, rfl, rfl⟩ := pr3 hres
  exact W.iret hx hb hr (fun t ht hW => ⟨rfl, ⟨by rw [ht]; exact hI.1, va_K.moved hW.alike hK, hI.2.1, NW.warm hW hN⟩, hI.2.2.F ht⟩) hI.2.2.2.2 dX7_failed_9
abbrev rm_X7_begin : Room := { frames := 0, cells := 0, slots := 0, locals := 0 }
def f_X7_begin (v : Nat → Int32) (r : Nat → Nat → Int32) (a1 : Int32) : Option ST := some (((upd v 0 ((31 * (v 0)) + a1)), r))
set_option maxHeartbeats 4000000 in
set_option maxRecDepth 100000 in
theorem c_X7_begin (l : Launch) (D : va_G) (cy : Nat → ClassId) (A : Nat → Nat) (X : va_W) (A0 : Nat → Prop) (v : Nat → Int32) (r : Nat → Nat → Int32) (a1 : Int32) (v2 : Nat → Int32) (r2 : Nat → Nat → Int32) (hres : f_X7_begin v r a1 = some (v2, r2)) : Met l yX7_begin wsX7_begin rm_X7_begin (va_Pc [.ref (A 0), .int a1] (GW D (tyC cy) (pcC cy A v r ++ X) A0)) (QW none (GW D (tyC cy) (pcC cy A v2 r2 ++ X) A0) A0) 0 0 A0 := by
  refine Met.ofW (cc := cX7_begin) (maxL := 2) (ret := none) (by decide) rfl ?_
  intro p e s m args below meth c s₁ B hml hv
  obtain ⟨hargs, hP, hK, hD0, hN⟩ := hv
  have hx := B.exec
  have hb := B.bytes
  have hr := B.returns
  have hts := atoms_spec (ws := wsX7_begin) B.pre
  have hown : s.vm.findClass RX7 = some m.cls := findClass_of_methodNamed B.named
  have hlocks := B.notSynchronized
  have hI : IW D (pcC cy A v r ++ X) A0 s.heap s.heap [] := ⟨hP, hD0, va_S.rf⟩
  have in7 : ∀ w ∈ wsX70, w ∈ wsX7_begin := fun _ h => List.mem_cons_of_mem _ (List.mem_append_right _ h)
  have hl := lv_entry ([.ref (A 0), .int a1]) (n := 2) (Nat.le_of_ble_eq_true rfl)
  have hE : entryFrame m args 2 = F0 m 0 ((lg_sl ([.ref (A 0), .int a1]) ++ List.replicate (2 - (lg_sl ([.ref (A 0), .int a1])).length) Slot.unset).toArray) [] := by rw [hargs]; exact lg_entry_eq m [.ref (A 0), .int a1] 2
  rw [hE]
  generalize (lg_sl ([.ref (A 0), .int a1]) ++ List.replicate (2 - (lg_sl ([.ref (A 0), .int a1])).length) Slot.unset).toArray = ls at hl ⊢
  have hl : lv_has ls 2 [(0, .ref (A 0)), (1, .int a1)] := hl
  unfold f_X7_begin at hres
  refine lv_aload_n hx hb dX7_begin_0 rfl (lv_at hl 0 rfl) ?_
  refine lv_bipush (v := 31) hx hb dX7_begin_1 (by decide) ?_
  refine lv_aload_n hx hb dX7_begin_3 rfl (lv_at hl 0 rfl) ?_
  refine gC_X7_traced hx hb hts in7 hown hK hI (hts (.fieldLink RX7 48 "TrickHouse" "traced" "I") (by decide +kernel)) dX7_begin_4 ?_
  refine lv_imul hx hb dX7_begin_7 ?_
  refine lv_iload_n hx hb dX7_begin_8 rfl (lv_at hl 1 rfl) ?_
  refine lv_iadd hx hb dX7_begin_9 ?_
  refine pC_X7_traced hx hb hts in7 hown hK hI (hts (.fieldLink RX7 48 "TrickHouse" "traced" "I") (by decide +kernel)) dX7_begin_10 (fun H locs hI => ?_)
  obtain ⟨rfl, rfl⟩ := pr2 hres
  exact W.vret hx hb hr (fun t ht hW => ⟨rfl, ⟨by rw [ht]; exact hI.1, va_K.moved hW.alike hK, hI.2.1, NW.warm hW hN⟩, hI.2.2.F ht⟩) hI.2.2.2.2 dX7_begin_13
abbrev rm_X7_tellAsThing : Room := { frames := 1, cells := 0, slots := 0, locals := 21 }
def f_X7_tellAsThing (v : Nat → Int32) (r : Nat → Nat → Int32) (k1 : Nat) : Option (Int32 × ST) := (f_X7_begin v r (1 : Int32)).bind (fun y1 => some ((y1.2 2 k1), (y1.1, y1.2)))
set_option maxHeartbeats 4000000 in
set_option maxRecDepth 100000 in
theorem c_X7_tellAsThing (l : Launch) (D : va_G) (cy : Nat → ClassId) (A : Nat → Nat) (X : va_W) (A0 : Nat → Prop) (v : Nat → Int32) (r : Nat → Nat → Int32) (k1 : Nat) (hk1 : k1 < 6) (res : Int32) (v2 : Nat → Int32) (r2 : Nat → Nat → Int32) (hres : f_X7_tellAsThing v r k1 = some (res, (v2, r2))) : Met l yX7_tellAsThing wsX7_tellAsThing rm_X7_tellAsThing (va_Pc [.ref (A 0), .ref (A (13 + k1))] (GW D (tyC cy) (pcC cy A v r ++ X) A0)) (QW (some (.int res)) (GW D (tyC cy) (pcC cy A v2 r2 ++ X) A0) A0) 0 0 A0 := by
  refine Met.ofW (cc := cX7_tellAsThing) (maxL := 2) (ret := (some .int)) (by decide) rfl ?_
  intro p e s m args below meth c s₁ B hml hv
  obtain ⟨hargs, hP, hK, hD0, hN⟩ := hv
  have hx := B.exec
  have hb := B.bytes
  have hr := B.returns
  have hts := atoms_spec (ws := wsX7_tellAsThing) B.pre
  have hown : s.vm.findClass RX7 = some m.cls := findClass_of_methodNamed B.named
  have hlocks := B.notSynchronized
  have hI : IW D (pcC cy A v r ++ X) A0 s.heap s.heap [] := ⟨hP, hD0, va_S.rf⟩
  have S : CallFix p m c cX7_tellAsThing 2 s args wsX7_tellAsThing RX7 := ⟨hx, hb, hml, hown, hts⟩
  have in0 : ∀ w ∈ wsX00, w ∈ wsX7_tellAsThing := fun _ h => List.mem_cons_of_mem _ (List.mem_append_left _ (List.mem_append_right _ h))
  have hl := lv_entry ([.ref (A 0), .ref (A (13 + k1))]) (n := 2) (Nat.le_of_ble_eq_true rfl)
  have hE : entryFrame m args 2 = F0 m 0 ((lg_sl ([.ref (A 0), .ref (A (13 + k1))]) ++ List.replicate (2 - (lg_sl ([.ref (A 0), .ref (A (13 + k1))])).length) Slot.unset).toArray) [] := by rw [hargs]; exact lg_entry_eq m [.ref (A 0), .ref (A (13 + k1))] 2
  rw [hE]
  generalize (lg_sl ([.ref (A 0), .ref (A (13 + k1))]) ++ List.replicate (2 - (lg_sl ([.ref (A 0), .ref (A (13 + k1))])).length) Slot.unset).toArray = ls at hl ⊢
  have hl : lv_has ls 2 [(0, .ref (A 0)), (1, .ref (A (13 + k1)))] := hl
  unfold f_X7_tellAsThing at hres
  refine lv_aload_n hx hb dX7_tellAsThing_0 rfl (lv_at hl 0 rfl) ?_
  refine lv_iconst (v := 1) hx hb dX7_tellAsThing_1 (by decide) ?_
  obtain ⟨y1, e1, hres⟩ := bd hres
  refine rw_v S (c_X7_begin l D cy A X A0 v r (1 : Int32) y1.1 y1.2 e1) (cwV 1 hts gX7_tellAsThing_X7_begin rfl rfl rfl (by decide +kernel) ⟨Nat.le_of_ble_eq_true rfl, Nat.le_of_ble_eq_true rfl⟩) hI hK hN (ci := 6) rfl (atC_0) rfl rfl hl.1 rfl (Nat.le_of_ble_eq_true rfl) dX7_tellAsThing_2 ⟨Nat.zero_le _, Nat.zero_le _⟩ (fun H locs hI => ?_)
  refine lv_aload_n hx hb dX7_tellAsThing_5 rfl (lv_at hl 1 rfl) ?_
  refine gC_X0_gaiety hk1 hx hb hts in0 hown hK hI (hts (.fieldLink RX7 101 "TrickHouse$Article" "gaiety" "I") (by decide +kernel)) dX7_tellAsThing_6 ?_
  obtain ⟨rfl, rfl, rfl⟩ := pr3 hres
  exact W.iret hx hb hr (fun t ht hW => ⟨rfl, ⟨by rw [ht]; exact hI.1, va_K.moved hW.alike hK, hI.2.1, NW.warm hW hN⟩, hI.2.2.F ht⟩) hI.2.2.2.2 dX7_tellAsThing_9
abbrev rm_X7_tellAsBeast : Room := { frames := 2, cells := 0, slots := 0, locals := 42 }
def f_X7_tellAsBeast (v : Nat → Int32) (r : Nat → Nat → Int32) (k1 : Nat) : Option (Int32 × ST) := (f_X7_begin v r (2 : Int32)).bind (fun y1 => (f_X7_tellAsThing y1.1 y1.2 k1).bind (fun y2 => some ((y2.1 + 100), (y2.2.1, y2.2.2))))
set_option maxHeartbeats 4000000 in
set_option maxRecDepth 100000 in
theorem c_X7_tellAsBeast (l : Launch) (D : va_G) (cy : Nat → ClassId) (A : Nat → Nat) (X : va_W) (A0 : Nat → Prop) (v : Nat → Int32) (r : Nat → Nat → Int32) (k1 : Nat) (hk1 : k1 < 6) (res : Int32) (v2 : Nat → Int32) (r2 : Nat → Nat → Int32) (hres : f_X7_tellAsBeast v r k1 = some (res, (v2, r2))) : Met l yX7_tellAsBeast wsX7_tellAsBeast rm_X7_tellAsBeast (va_Pc [.ref (A 0), .ref (A (13 + k1))] (GW D (tyC cy) (pcC cy A v r ++ X) A0)) (QW (some (.int res)) (GW D (tyC cy) (pcC cy A v2 r2 ++ X) A0) A0) 0 0 A0 := by
  refine Met.ofW (cc := cX7_tellAsBeast) (maxL := 2) (ret := (some .int)) (by decide) rfl ?_
  intro p e s m args below meth c s₁ B hml hv
  obtain ⟨hargs, hP, hK, hD0, hN⟩ := hv
  have hx := B.exec
  have hb := B.bytes
  have hr := B.returns
  have hts := atoms_spec (ws := wsX7_tellAsBeast) B.pre
  have hown : s.vm.findClass RX7 = some m.cls := findClass_of_methodNamed B.named
  have hlocks := B.notSynchronized
  have hI : IW D (pcC cy A v r ++ X) A0 s.heap s.heap [] := ⟨hP, hD0, va_S.rf⟩
  have S : CallFix p m c cX7_tellAsBeast 2 s args wsX7_tellAsBeast RX7 := ⟨hx, hb, hml, hown, hts⟩
  have hl := lv_entry ([.ref (A 0), .ref (A (13 + k1))]) (n := 2) (Nat.le_of_ble_eq_true rfl)
  have hE : entryFrame m args 2 = F0 m 0 ((lg_sl ([.ref (A 0), .ref (A (13 + k1))]) ++ List.replicate (2 - (lg_sl ([.ref (A 0), .ref (A (13 + k1))])).length) Slot.unset).toArray) [] := by rw [hargs]; exact lg_entry_eq m [.ref (A 0), .ref (A (13 + k1))] 2
  rw [hE]
  generalize (lg_sl ([.ref (A 0), .ref (A (13 + k1))]) ++ List.replicate (2 - (lg_sl ([.ref (A 0), .ref (A (13 + k1))])).length) Slot.unset).toArray = ls at hl ⊢
  have hl : lv_has ls 2 [(0, .ref (A 0)), (1, .ref (A (13 + k1)))] := hl
  unfold f_X7_tellAsBeast at hres
  refine lv_aload_n hx hb dX7_tellAsBeast_0 rfl (lv_at hl 0 rfl) ?_
  refine lv_iconst (v := 2) hx hb dX7_tellAsBeast_1 (by decide) ?_
  obtain ⟨y1, e1, hres⟩ := bd hres
  refine rw_v S (c_X7_begin l D cy A X A0 v r (2 : Int32) y1.1 y1.2 e1) (cwV 1 hts gX7_tellAsBeast_X7_begin rfl rfl rfl (by decide +kernel) ⟨Nat.le_of_ble_eq_true rfl, Nat.le_of_ble_eq_true rfl⟩) hI hK hN (ci := 6) rfl (atC_0) rfl rfl hl.1 rfl (Nat.le_of_ble_eq_true rfl) dX7_tellAsBeast_2 ⟨Nat.zero_le _, Nat.zero_le _⟩ (fun H locs hI => ?_)
  refine lv_aload_n hx hb dX7_tellAsBeast_5 rfl (lv_at hl 0 rfl) ?_
  refine lv_aload_n hx hb dX7_tellAsBeast_6 rfl (lv_at hl 1 rfl) ?_
  obtain ⟨y2, e2, hres⟩ := bd hres
  refine rw_v S (c_X7_tellAsThing l D cy A X A0 y1.1 y1.2 k1 hk1 y2.1 y2.2.1 y2.2.2 e2) (cwV 1 hts gX7_tellAsBeast_X7_tellAsThing rfl rfl rfl (by decide +kernel) ⟨Nat.le_of_ble_eq_true rfl, Nat.le_of_ble_eq_true rfl⟩) hI hK hN (ci := 6) rfl (atC_0) rfl rfl hl.1 rfl (Nat.le_of_ble_eq_true rfl) dX7_tellAsBeast_7 ⟨Nat.zero_le _, Nat.zero_le _⟩ (fun H locs hI => ?_)
  refine lv_bipush (v := 100) hx hb dX7_tellAsBeast_10 (by decide) ?_
  refine lv_iadd hx hb dX7_tellAsBeast_12 ?_
  obtain ⟨rfl, rfl, rfl⟩ := pr3 hres
  exact W.iret hx hb hr (fun t ht hW => ⟨rfl, ⟨by rw [ht]; exact hI.1, va_K.moved hW.alike hK, hI.2.1, NW.warm hW hN⟩, hI.2.2.F ht⟩) hI.2.2.2.2 dX7_tellAsBeast_13
abbrev rm_X7_tellAsPerson : Room := { frames := 3, cells := 0, slots := 0, locals := 63 }
def f_X7_tellAsPerson (v : Nat → Int32) (r : Nat → Nat → Int32) (k1 : Nat) : Option (Int32 × ST) := (f_X7_begin v r (3 : Int32)).bind (fun y1 => (f_X7_tellAsBeast y1.1 y1.2 k1).bind (fun y2 => (f_X7_tellAsThing y2.2.1 y2.2.2 k1).bind (fun y3 => some ((y2.1 + y3.1), (y3.2.1, y3.2.2)))))
set_option maxHeartbeats 4000000 in
set_option maxRecDepth 100000 in
theorem c_X7_tellAsPerson (l : Launch) (D : va_G) (cy : Nat → ClassId) (A : Nat → Nat) (X : va_W) (A0 : Nat → Prop) (v : Nat → Int32) (r : Nat → Nat → Int32) (k1 : Nat) (hk1 : k1 < 6) (res : Int32) (v2 : Nat → Int32) (r2 : Nat → Nat → Int32) (hres : f_X7_tellAsPerson v r k1 = some (res, (v2, r2))) : Met l yX7_tellAsPerson wsX7_tellAsPerson rm_X7_tellAsPerson (va_Pc [.ref (A 0), .ref (A (13 + k1))] (GW D (tyC cy) (pcC cy A v r ++ X) A0)) (QW (some (.int res)) (GW D (tyC cy) (pcC cy A v2 r2 ++ X) A0) A0) 0 0 A0 := by
  refine Met.ofW (cc := cX7_tellAsPerson) (maxL := 3) (ret := (some .int)) (by decide) rfl ?_
  intro p e s m args below meth c s₁ B hml hv
  obtain ⟨hargs, hP, hK, hD0, hN⟩ := hv
  have hx := B.exec
  have hb := B.bytes
  have hr := B.returns
  have hts := atoms_spec (ws := wsX7_tellAsPerson) B.pre
  have hown : s.vm.findClass RX7 = some m.cls := findClass_of_methodNamed B.named
  have hlocks := B.notSynchronized
  have hI : IW D (pcC cy A v r ++ X) A0 s.heap s.heap [] := ⟨hP, hD0, va_S.rf⟩
  have S : CallFix p m c cX7_tellAsPerson 3 s args wsX7_tellAsPerson RX7 := ⟨hx, hb, hml, hown, hts⟩
  have hl := lv_entry ([.ref (A 0), .ref (A (13 + k1))]) (n := 3) (Nat.le_of_ble_eq_true rfl)
  have hE : entryFrame m args 3 = F0 m 0 ((lg_sl ([.ref (A 0), .ref (A (13 + k1))]) ++ List.replicate (3 - (lg_sl ([.ref (A 0), .ref (A (13 + k1))])).length) Slot.unset).toArray) [] := by rw [hargs]; exact lg_entry_eq m [.ref (A 0), .ref (A (13 + k1))] 3
  rw [hE]
  generalize (lg_sl ([.ref (A 0), .ref (A (13 + k1))]) ++ List.replicate (3 - (lg_sl ([.ref (A 0), .ref (A (13 + k1))])).length) Slot.unset).toArray = ls at hl ⊢
  have hl : lv_has ls 3 [(0, .ref (A 0)), (1, .ref (A (13 + k1)))] := hl
  unfold f_X7_tellAsPerson at hres
  refine lv_aload_n hx hb dX7_tellAsPerson_0 rfl (lv_at hl 0 rfl) ?_
  refine lv_iconst (v := 3) hx hb dX7_tellAsPerson_1 (by decide) ?_
  obtain ⟨y1, e1, hres⟩ := bd hres
  refine rw_v S (c_X7_begin l D cy A X A0 v r (3 : Int32) y1.1 y1.2 e1) (cwV 1 hts gX7_tellAsPerson_X7_begin rfl rfl rfl (by decide +kernel) ⟨Nat.le_of_ble_eq_true rfl, Nat.le_of_ble_eq_true rfl⟩) hI hK hN (ci := 6) rfl (atC_0) rfl rfl hl.1 rfl (Nat.le_of_ble_eq_true rfl) dX7_tellAsPerson_2 ⟨Nat.zero_le _, Nat.zero_le _⟩ (fun H locs hI => ?_)
  refine lv_aload_n hx hb dX7_tellAsPerson_5 rfl (lv_at hl 0 rfl) ?_
  refine lv_aload_n hx hb dX7_tellAsPerson_6 rfl (lv_at hl 1 rfl) ?_
  obtain ⟨y2, e2, hres⟩ := bd hres
  refine rw_v S (c_X7_tellAsBeast l D cy A X A0 y1.1 y1.2 k1 hk1 y2.1 y2.2.1 y2.2.2 e2) (cwV 1 hts gX7_tellAsPerson_X7_tellAsBeast rfl rfl rfl (by decide +kernel) ⟨Nat.le_of_ble_eq_true rfl, Nat.le_of_ble_eq_true rfl⟩) hI hK hN (ci := 6) rfl (atC_0) rfl rfl hl.1 rfl (Nat.le_of_ble_eq_true rfl) dX7_tellAsPerson_7 ⟨Nat.zero_le _, Nat.zero_le _⟩ (fun H locs hI => ?_)
  refine lv_istore_n (lv' := [(2, .int y2.1), (0, .ref (A 0)), (1, .ref (A (13 + k1)))]) hx hb dX7_tellAsPerson_10 rfl hl (by decide) rfl (fun ls hl => ?_)
  refine lv_iload_n hx hb dX7_tellAsPerson_11 rfl (lv_at hl 0 rfl) ?_
  refine lv_aload_n hx hb dX7_tellAsPerson_12 rfl (lv_at hl 1 rfl) ?_
  refine lv_aload_n hx hb dX7_tellAsPerson_13 rfl (lv_at hl 2 rfl) ?_
  obtain ⟨y3, e3, hres⟩ := bd hres
  refine rw_v S (c_X7_tellAsThing l D cy A X A0 y2.2.1 y2.2.2 k1 hk1 y3.1 y3.2.1 y3.2.2 e3) (cwV 1 hts gX7_tellAsPerson_X7_tellAsThing rfl rfl rfl (by decide +kernel) ⟨Nat.le_of_ble_eq_true rfl, Nat.le_of_ble_eq_true rfl⟩) hI hK hN (ci := 6) rfl (atC_0) rfl rfl hl.1 rfl (Nat.le_of_ble_eq_true rfl) dX7_tellAsPerson_14 ⟨Nat.zero_le _, Nat.zero_le _⟩ (fun H locs hI => ?_)
  refine lv_iadd hx hb dX7_tellAsPerson_17 ?_
  obtain ⟨rfl, rfl, rfl⟩ := pr3 hres
  exact W.iret hx hb hr (fun t ht hW => ⟨rfl, ⟨by rw [ht]; exact hI.1, va_K.moved hW.alike hK, hI.2.1, NW.warm hW hN⟩, hI.2.2.F ht⟩) hI.2.2.2.2 dX7_tellAsPerson_18
abbrev rm_X7_city : Room := { frames := 5, cells := 0, slots := 0, locals := 113 }
def f_X7_city (v : Nat → Int32) (r : Nat → Nat → Int32) (a1 : Int32) (a2 : Int32) (a3 : Int32) (a4 : Int32) : Option (Int32 × ST) := (if (f_X7_isSheet a1) = true then (if (f_X7_isLane a2) = true then if inR a1 4 = true then (if (f_X4_faultOfTaking (upd v 1 0) r a1.toNatClampNeg a2 a3 a4) = 0 then (f_X5_firstFault (upd v 1 0) r a1.toNatClampNeg a3 a4).bind (fun y8 => (if y8 = (-9) then (f_X5_build (upd v 1 0) r a1.toNatClampNeg a3 a4).bind (fun y10 => some (((upd y10.1 6 0) 2), ((upd y10.1 6 0), y10.2))) else some (((-100) - y8), ((upd v 1 0), r)))) else (f_X7_failed (upd v 1 0) r (f_X4_faultOfTaking (upd v 1 0) r a1.toNatClampNeg a2 a3 a4)).bind (fun y11 => some (y11.1, (y11.2.1, y11.2.2)))) else none else some ((-2), ((upd v 1 0), r))) else some ((-1), ((upd v 1 0), r)))
set_option maxHeartbeats 4000000 in
set_option maxRecDepth 100000 in
theorem c_X7_city (l : Launch) (D : va_G) (cy : Nat → ClassId) (A : Nat → Nat) (X : va_W) (A0 : Nat → Prop) (v : Nat → Int32) (r : Nat → Nat → Int32) (a1 : Int32) (a2 : Int32) (a3 : Int32) (a4 : Int32) (res : Int32) (v2 : Nat → Int32) (r2 : Nat → Nat → Int32) (hres : f_X7_city v r a1 a2 a3 a4 = some (res, (v2, r2))) : Met l yX7_city wsX7_city rm_X7_city (va_Pc [.ref (A 0), .int a1, .int a2, .int a3, .int a4] (GW D (tyC cy) (pcC cy A v r ++ X) A0)) (QW (some (.int res)) (GW D (tyC cy) (pcC cy A v2 r2 ++ X) A0) A0) 0 0 A0 := by
  refine Met.ofW (cc := cX7_city) (maxL := 8) (ret := (some .int)) (by decide) rfl ?_
  intro p e s m args below meth c s₁ B hml hv
  obtain ⟨hargs, hP, hK, hD0, hN⟩ := hv
  have hx := B.exec
  have hb := B.bytes
  have hr := B.returns
  have hts := atoms_spec (ws := wsX7_city) B.pre
  have hown : s.vm.findClass RX7 = some m.cls := findClass_of_methodNamed B.named
  have hlocks := B.notSynchronized
  have hI : IW D (pcC cy A v r ++ X) A0 s.heap s.heap [] := ⟨hP, hD0, va_S.rf⟩
  have S : CallFix p m c cX7_city 8 s args wsX7_city RX7 := ⟨hx, hb, hml, hown, hts⟩
  have in1 : ∀ w ∈ wsX10, w ∈ wsX7_city := fun _ h => List.mem_cons_of_mem _ (List.mem_append_left _ (List.mem_append_left _ (List.mem_append_right _ h)))
  have in3 : ∀ w ∈ wsX30, w ∈ wsX7_city := fun _ h => List.mem_cons_of_mem _ (List.mem_append_left _ (List.mem_append_left _ (List.mem_append_left _ (List.mem_append_right _ h))))
  have in7 : ∀ w ∈ wsX70, w ∈ wsX7_city := fun _ h => List.mem_cons_of_mem _ (List.mem_append_left _ (List.mem_append_left _ (List.mem_append_left _ (List.mem_append_left _ (List.mem_append_right _ h)))))
  have hl := lv_entry ([.ref (A 0), .int a1, .int a2, .int a3, .int a4]) (n := 8) (Nat.le_of_ble_eq_true rfl)
  have hE : entryFrame m args 8 = F0 m 0 ((lg_sl ([.ref (A 0), .int a1, .int a2, .int a3, .int a4]) ++ List.replicate (8 - (lg_sl ([.ref (A 0), .int a1, .int a2, .int a3, .int a4])).length) Slot.unset).toArray) [] := by rw [hargs]; exact lg_entry_eq m [.ref (A 0), .int a1, .int a2, .int a3, .int a4] 8
  rw [hE]
  generalize (lg_sl ([.ref (A 0), .int a1, .int a2, .int a3, .int a4]) ++ List.replicate (8 - (lg_sl ([.ref (A 0), .int a1, .int a2, .int a3, .int a4])).length) Slot.unset).toArray = ls at hl ⊢
  have hl : lv_has ls 8 [(0, .ref (A 0)), (1, .int a1), (2, .int a2), (3, .int a3), (4, .int a4)] := hl
  unfold f_X7_city at hres
  refine lv_aload_n hx hb dX7_city_0 rfl (lv_at hl 0 rfl) ?_
  refine lv_iconst (v := 0) hx hb dX7_city_1 (by decide) ?_
  refine pC_X7_lastFault hx hb hts in7 hown hK hI (hts (.fieldLink RX7 52 "TrickHouse" "lastFault" "I") (by decide +kernel)) dX7_city_2 (fun H locs hI => ?_)
  refine lv_iload_n hx hb dX7_city_5 rfl (lv_at hl 1 rfl) ?_
  refine pu_s S (c_X7_isSheet l a1 _ rfl) (va_cwS 1 hts gX7_city_X7_isSheet rfl rfl rfl (by decide +kernel) ⟨Nat.le_of_ble_eq_true rfl, Nat.le_of_ble_eq_true rfl⟩) hN rfl hl.1 rfl (Nat.le_of_ble_eq_true rfl) dX7_city_6 ⟨Nat.zero_le _, Nat.zero_le _⟩ ?_
  refine lv_if_ne (tgt := 14) hx hb dX7_city_9 (by decide) (fun c2 => ?_) (fun c2 => ?_)
  · replace hres := (if_pos (bI_t c2)).symm.trans hres
    refine lv_iload_n hx hb dX7_city_14 rfl (lv_at hl 2 rfl) ?_
    refine pu_s S (c_X7_isLane l a2 _ rfl) (va_cwS 1 hts gX7_city_X7_isLane rfl rfl rfl (by decide +kernel) ⟨Nat.le_of_ble_eq_true rfl, Nat.le_of_ble_eq_true rfl⟩) hN rfl hl.1 rfl (Nat.le_of_ble_eq_true rfl) dX7_city_15 ⟨Nat.zero_le _, Nat.zero_le _⟩ ?_
    refine lv_if_ne (tgt := 24) hx hb dX7_city_18 (by decide) (fun c4 => ?_) (fun c4 => ?_)
    · replace hres := (if_pos (bI_t c4)).symm.trans hres
      refine lv_aload_n hx hb dX7_city_24 rfl (lv_at hl 0 rfl) ?_
      refine gC_X7_sheets hx hb hts in7 hown hK hI (hts (.fieldLink RX7 43 "TrickHouse" "sheets" "[LTrickHouse$Sheet;") (by decide +kernel)) dX7_city_25 ?_
      refine lv_iload_n hx hb dX7_city_28 rfl (lv_at hl 1 rfl) ?_
      obtain ⟨g5, hres⟩ := gd hres
      refine th_ald (f := fun k => A (19 + k)) hx hb hK hI 12 2 rfl rfl g5 dX7_city_29 ?_
      refine lv_astore (lv' := [(5, .ref (A (19 + a1.toNatClampNeg))), (0, .ref (A 0)), (1, .int a1), (2, .int a2), (3, .int a3), (4, .int a4)]) hx hb dX7_city_30 hl (by decide) rfl (fun ls hl => ?_)
      refine lv_aload hx hb dX7_city_32 (lv_at hl 0 rfl) ?_
      refine lv_iload_n hx hb dX7_city_34 rfl (lv_at hl 3 rfl) ?_
      refine lv_iload_n hx hb dX7_city_35 rfl (lv_at hl 4 rfl) ?_
      refine lv_iload hx hb dX7_city_36 (lv_at hl 5 rfl) ?_
      refine ro_v S (c_X4_faultOfTaking l D cy A X A0 (upd v 1 0) r a1.toNatClampNeg (inR_lt g5) a2 a3 a4 _ rfl) (cwV 3 hts gX7_city_X4_faultOfTaking rfl rfl rfl (by decide +kernel) ⟨Nat.le_of_ble_eq_true rfl, Nat.le_of_ble_eq_true rfl⟩) hI hK hN (ci := 4) rfl (atC_sh (inR_lt g5)) rfl rfl hl.1 rfl (Nat.le_of_ble_eq_true rfl) dX7_city_38 ⟨Nat.zero_le _, Nat.zero_le _⟩ ?_
      refine lv_istore (lv' := [(6, .int (f_X4_faultOfTaking (upd v 1 0) r a1.toNatClampNeg a2 a3 a4)), (5, .ref (A (19 + a1.toNatClampNeg))), (0, .ref (A 0)), (1, .int a1), (2, .int a2), (3, .int a3), (4, .int a4)]) hx hb dX7_city_41 hl (by decide) rfl (fun ls hl => ?_)
      refine lv_iload hx hb dX7_city_43 (lv_at hl 0 rfl) ?_
      refine lv_if_eq (tgt := 55) hx hb dX7_city_45 (by decide) (fun c7 => ?_) (fun c7 => ?_)
      · replace hres := (if_pos c7).symm.trans hres
        refine lv_aload hx hb dX7_city_55 (lv_at hl 1 rfl) ?_
        refine lv_iload_n hx hb dX7_city_57 rfl (lv_at hl 5 rfl) ?_
        refine lv_iload hx hb dX7_city_58 (lv_at hl 6 rfl) ?_
        obtain ⟨y8, e8, hres⟩ := bd hres
        refine ro_s S (c_X5_firstFault l D cy A X A0 (upd v 1 0) r a1.toNatClampNeg (inR_lt g5) a3 a4 y8 e8) (va_cwS 3 hts gX7_city_X5_firstFault rfl rfl rfl (by decide +kernel) ⟨Nat.le_of_ble_eq_true rfl, Nat.le_of_ble_eq_true rfl⟩) hI hK hN rfl hl.1 rfl (Nat.le_of_ble_eq_true rfl) dX7_city_60 ⟨Nat.zero_le _, Nat.zero_le _⟩ ?_
        refine lv_istore (lv' := [(7, .int y8), (6, .int (f_X4_faultOfTaking (upd v 1 0) r a1.toNatClampNeg a2 a3 a4)), (5, .ref (A (19 + a1.toNatClampNeg))), (0, .ref (A 0)), (1, .int a1), (2, .int a2), (3, .int a3), (4, .int a4)]) hx hb dX7_city_63 hl (by decide) rfl (fun ls hl => ?_)
        refine lv_iload hx hb dX7_city_65 (lv_at hl 0 rfl) ?_
        refine lv_bipush (v := (-9)) hx hb dX7_city_67 (by decide) ?_
        refine lv_icmp_eq (tgt := 78) hx hb dX7_city_69 (by decide) (fun c9 => ?_) (fun c9 => ?_)
        · replace hres := (if_pos c9).symm.trans hres
          refine lv_aload_n hx hb dX7_city_78 rfl (lv_at hl 3 rfl) ?_
          refine gC_X7_house hx hb hts in7 hown hK hI (hts (.fieldLink RX7 12 "TrickHouse" "house" "LTrickHouse$House;") (by decide +kernel)) dX7_city_79 ?_
          refine lv_aload hx hb dX7_city_82 (lv_at hl 2 rfl) ?_
          refine lv_iload_n hx hb dX7_city_84 rfl (lv_at hl 6 rfl) ?_
          refine lv_iload hx hb dX7_city_85 (lv_at hl 7 rfl) ?_
          obtain ⟨y10, e10, hres⟩ := bd hres
          refine rw_s S (c_X5_build l D cy A X A0 (upd v 1 0) r a1.toNatClampNeg (inR_lt g5) a3 a4 y10.1 y10.2 e10) (va_cwS 4 hts gX7_city_X5_build rfl rfl rfl (by decide +kernel) ⟨Nat.le_of_ble_eq_true rfl, Nat.le_of_ble_eq_true rfl⟩) hI hK hN rfl hl.1 rfl (Nat.le_of_ble_eq_true rfl) dX7_city_87 ⟨Nat.zero_le _, Nat.zero_le _⟩ (fun H locs hI => ?_)
          refine lv_aload_n hx hb dX7_city_90 rfl (lv_at hl 3 rfl) ?_
          refine gC_X7_readings hx hb hts in7 hown hK hI (hts (.fieldLink RX7 21 "TrickHouse" "readings" "LTrickHouse$Readings;") (by decide +kernel)) dX7_city_91 ?_
          refine lv_iconst (v := 0) hx hb dX7_city_94 (by decide) ?_
          refine pC_X3_count hx hb hts in3 hown hK hI (hts (.fieldLink RX7 80 "TrickHouse$Readings" "count" "I") (by decide +kernel)) dX7_city_95 (fun H locs hI => ?_)
          refine lv_aload_n hx hb dX7_city_98 rfl (lv_at hl 3 rfl) ?_
          refine gC_X7_house hx hb hts in7 hown hK hI (hts (.fieldLink RX7 12 "TrickHouse" "house" "LTrickHouse$House;") (by decide +kernel)) dX7_city_99 ?_
          refine gC_X1_articleCount hx hb hts in1 hown hK hI (hts (.fieldLink RX7 83 "TrickHouse$House" "articleCount" "I") (by decide +kernel)) dX7_city_102 ?_
          obtain ⟨rfl, rfl, rfl⟩ := pr3 hres
          exact W.iret hx hb hr (fun t ht hW => ⟨rfl, ⟨by rw [ht]; exact hI.1, va_K.moved hW.alike hK, hI.2.1, NW.warm hW hN⟩, hI.2.2.F ht⟩) hI.2.2.2.2 dX7_city_105
        · replace hres := (if_neg c9).symm.trans hres
          refine lv_bipush (v := (-100)) hx hb dX7_city_72 (by decide) ?_
          refine lv_iload hx hb dX7_city_74 (lv_at hl 0 rfl) ?_
          refine lv_isub hx hb dX7_city_76 ?_
          obtain ⟨rfl, rfl, rfl⟩ := pr3 hres
          exact W.iret hx hb hr (fun t ht hW => ⟨rfl, ⟨by rw [ht]; exact hI.1, va_K.moved hW.alike hK, hI.2.1, NW.warm hW hN⟩, hI.2.2.F ht⟩) hI.2.2.2.2 dX7_city_77
      · replace hres := (if_neg c7).symm.trans hres
        refine lv_aload_n hx hb dX7_city_48 rfl (lv_at hl 2 rfl) ?_
        refine lv_iload hx hb dX7_city_49 (lv_at hl 0 rfl) ?_
        obtain ⟨y11, e11, hres⟩ := bd hres
        refine rw_v S (c_X7_failed l D cy A X A0 (upd v 1 0) r (f_X4_faultOfTaking (upd v 1 0) r a1.toNatClampNeg a2 a3 a4) y11.1 y11.2.1 y11.2.2 e11) (cwV 1 hts gX7_city_X7_failed rfl rfl rfl (by decide +kernel) ⟨Nat.le_of_ble_eq_true rfl, Nat.le_of_ble_eq_true rfl⟩) hI hK hN (ci := 6) rfl (atC_0) rfl rfl hl.1 rfl (Nat.le_of_ble_eq_true rfl) dX7_city_51 ⟨Nat.zero_le _, Nat.zero_le _⟩ (fun H locs hI => ?_)
        obtain ⟨rfl, rfl, rfl⟩ := pr3 hres
        exact W.iret hx hb hr (fun t ht hW => ⟨rfl, ⟨by rw [ht]; exact hI.1, va_K.moved hW.alike hK, hI.2.1, NW.warm hW hN⟩, hI.2.2.F ht⟩) hI.2.2.2.2 dX7_city_54
    · replace hres := (if_neg (bI_f c4)).symm.trans hres
      refine lv_bipush (v := (-2)) hx hb dX7_city_21 (by decide) ?_
      obtain ⟨rfl, rfl, rfl⟩ := pr3 hres
      exact W.iret hx hb hr (fun t ht hW => ⟨rfl, ⟨by rw [ht]; exact hI.1, va_K.moved hW.alike hK, hI.2.1, NW.warm hW hN⟩, hI.2.2.F ht⟩) hI.2.2.2.2 dX7_city_23
  · replace hres := (if_neg (bI_f c2)).symm.trans hres
    refine lv_iconst (v := (-1)) hx hb dX7_city_12 (by decide) ?_
    obtain ⟨rfl, rfl, rfl⟩ := pr3 hres
    exact W.iret hx hb hr (fun t ht hW => ⟨rfl, ⟨by rw [ht]; exact hI.1, va_K.moved hW.alike hK, hI.2.1, NW.warm hW hN⟩, hI.2.2.F ht⟩) hI.2.2.2.2 dX7_city_13
abbrev rm_X7_ofArticle : Room := { frames := 2, cells := 0, slots := 0, locals := 41 }
def f_X7_ofArticle (v : Nat → Int32) (r : Nat → Nat → Int32) (a1 : Int32) (a2 : Int32) : Option Int32 := (if (f_X1_isArticle v r a1) = true then if inR a1 6 = true then (if a2 = 0 then some ((r 0 a1.toNatClampNeg)) else (if a2 = 1 then some ((r 1 a1.toNatClampNeg)) else (if a2 = 2 then some ((r 2 a1.toNatClampNeg)) else (if a2 = 3 then some ((r 3 a1.toNatClampNeg)) else (if a2 = 4 then some ((f_X0_laugh v r a1.toNatClampNeg)) else (if a2 = 5 then (if (f_X7_has (v 5) a1) = true then some (1) else some (0)) else some ((-2)))))))) else none else some ((-1)))
set_option maxHeartbeats 4000000 in
set_option maxRecDepth 100000 in
theorem c_X7_ofArticle (l : Launch) (D : va_G) (cy : Nat → ClassId) (A : Nat → Nat) (X : va_W) (A0 : Nat → Prop) (v : Nat → Int32) (r : Nat → Nat → Int32) (a1 : Int32) (a2 : Int32) (res : Int32) (hres : f_X7_ofArticle v r a1 a2 = some res) : Met l yX7_ofArticle wsX7_ofArticle rm_X7_ofArticle (va_Pc [.ref (A 0), .int a1, .int a2] (GW D (tyC cy) (pcC cy A v r ++ X) A0)) (QR (.int res)) 0 0 (fun _ => False) := by
  refine Met.ofW (cc := cX7_ofArticle) (maxL := 4) (ret := (some .int)) (by decide) rfl ?_
  intro p e s m args below meth c s₁ B hml hv
  obtain ⟨hargs, hP, hK, hD0, hN⟩ := hv
  have hx := B.exec
  have hb := B.bytes
  have hr := B.returns
  have hts := atoms_spec (ws := wsX7_ofArticle) B.pre
  have hown : s.vm.findClass RX7 = some m.cls := findClass_of_methodNamed B.named
  have hlocks := B.notSynchronized
  have hI : IW D (pcC cy A v r ++ X) A0 s.heap s.heap [] := ⟨hP, hD0, va_S.rf⟩
  have S : CallFix p m c cX7_ofArticle 4 s args wsX7_ofArticle RX7 := ⟨hx, hb, hml, hown, hts⟩
  have in0 : ∀ w ∈ wsX00, w ∈ wsX7_ofArticle := fun _ h => List.mem_cons_of_mem _ (List.mem_append_right _ h)
  have in1 : ∀ w ∈ wsX10, w ∈ wsX7_ofArticle := fun _ h => List.mem_cons_of_mem _ (List.mem_append_left _ (List.mem_append_right _ h))
  have in7 : ∀ w ∈ wsX70, w ∈ wsX7_ofArticle := fun _ h => List.mem_cons_of_mem _ (List.mem_append_left _ (List.mem_append_left _ (List.mem_append_right _ h)))
  have hl := lv_entry ([.ref (A 0), .int a1, .int a2]) (n := 4) (Nat.le_of_ble_eq_true rfl)
  have hE : entryFrame m args 4 = F0 m 0 ((lg_sl ([.ref (A 0), .int a1, .int a2]) ++ List.replicate (4 - (lg_sl ([.ref (A 0), .int a1, .int a2])).length) Slot.unset).toArray) [] := by rw [hargs]; exact lg_entry_eq m [.ref (A 0), .int a1, .int a2] 4
  rw [hE]
  generalize (lg_sl ([.ref (A 0), .int a1, .int a2]) ++ List.replicate (4 - (lg_sl ([.ref (A 0), .int a1, .int a2])).length) Slot.unset).toArray = ls at hl ⊢
  have hl : lv_has ls 4 [(0, .ref (A 0)), (1, .int a1), (2, .int a2)] := hl
  unfold f_X7_ofArticle at hres
  refine lv_aload_n hx hb dX7_ofArticle_0 rfl (lv_at hl 0 rfl) ?_
  refine gC_X7_house hx hb hts in7 hown hK hI (hts (.fieldLink RX7 12 "TrickHouse" "house" "LTrickHouse$House;") (by decide +kernel)) dX7_ofArticle_1 ?_
  refine lv_iload_n hx hb dX7_ofArticle_4 rfl (lv_at hl 1 rfl) ?_
  refine ro_v S (c_X1_isArticle l D cy A X A0 v r a1 _ rfl) (cwV 1 hts gX7_ofArticle_X1_isArticle rfl rfl rfl (by decide +kernel) ⟨Nat.le_of_ble_eq_true rfl, Nat.le_of_ble_eq_true rfl⟩) hI hK hN (ci := 1) rfl (atC_1) rfl rfl hl.1 rfl (Nat.le_of_ble_eq_true rfl) dX7_ofArticle_5 ⟨Nat.zero_le _, Nat.zero_le _⟩ ?_
  refine lv_if_ne (tgt := 13) hx hb dX7_ofArticle_8 (by decide) (fun c2 => ?_) (fun c2 => ?_)
  · replace hres := (if_pos (bI_t c2)).symm.trans hres
    refine lv_aload_n hx hb dX7_ofArticle_13 rfl (lv_at hl 0 rfl) ?_
    refine gC_X7_house hx hb hts in7 hown hK hI (hts (.fieldLink RX7 12 "TrickHouse" "house" "LTrickHouse$House;") (by decide +kernel)) dX7_ofArticle_14 ?_
    refine gC_X1_articles hx hb hts in1 hown hK hI (hts (.fieldLink RX7 89 "TrickHouse$House" "articles" "[LTrickHouse$Article;") (by decide +kernel)) dX7_ofArticle_17 ?_
    refine lv_iload_n hx hb dX7_ofArticle_20 rfl (lv_at hl 1 rfl) ?_
    obtain ⟨g3, hres⟩ := gd hres
    refine th_ald (f := fun k => A (13 + k)) hx hb hK hI 2 1 rfl rfl g3 dX7_ofArticle_21 ?_
    refine lv_astore_n (lv' := [(3, .ref (A (13 + a1.toNatClampNeg))), (0, .ref (A 0)), (1, .int a1), (2, .int a2)]) hx hb dX7_ofArticle_22 rfl hl (by decide) rfl (fun ls hl => ?_)
    refine lv_iload_n hx hb dX7_ofArticle_23 rfl (lv_at hl 3 rfl) ?_
    by_cases c4 : a2 = 0
    · replace hres := (if_pos c4).symm.trans hres
      refine lv_tableIn (off := 40) (tgt := 64) hx hb dX7_ofArticle_24 (by rw [c4]; decide) (by rw [c4]; decide) (by rw [c4]; decide) (by decide) ?_
      refine lv_aload_n hx hb dX7_ofArticle_64 rfl (lv_at hl 0 rfl) ?_
      refine gC_X0_kind (inR_lt g3) hx hb hts in0 hown hK hI (hts (.fieldLink RX7 93 "TrickHouse$Article" "kind" "I") (by decide +kernel)) dX7_ofArticle_65 ?_
      obtain rfl := Option.some.inj hres
      exact W.iret hx hb hr (fun t ht hW => ⟨rfl, ht⟩) (fun _ h => absurd h List.not_mem_nil) dX7_ofArticle_68
    · replace hres := (if_neg c4).symm.trans hres
      by_cases c5 : a2 = 1
      · replace hres := (if_pos c5).symm.trans hres
        refine lv_tableIn (off := 45) (tgt := 69) hx hb dX7_ofArticle_24 (by rw [c5]; decide) (by rw [c5]; decide) (by rw [c5]; decide) (by decide) ?_
        refine lv_aload_n hx hb dX7_ofArticle_69 rfl (lv_at hl 0 rfl) ?_
        refine gC_X0_bulk (inR_lt g3) hx hb hts in0 hown hK hI (hts (.fieldLink RX7 98 "TrickHouse$Article" "bulk" "I") (by decide +kernel)) dX7_ofArticle_70 ?_
        obtain rfl := Option.some.inj hres
        exact W.iret hx hb hr (fun t ht hW => ⟨rfl, ht⟩) (fun _ h => absurd h List.not_mem_nil) dX7_ofArticle_73
      · replace hres := (if_neg c5).symm.trans hres
        by_cases c6 : a2 = 2
        · replace hres := (if_pos c6).symm.trans hres
          refine lv_tableIn (off := 50) (tgt := 74) hx hb dX7_ofArticle_24 (by rw [c6]; decide) (by rw [c6]; decide) (by rw [c6]; decide) (by decide) ?_
          refine lv_aload_n hx hb dX7_ofArticle_74 rfl (lv_at hl 0 rfl) ?_
          refine gC_X0_gaiety (inR_lt g3) hx hb hts in0 hown hK hI (hts (.fieldLink RX7 101 "TrickHouse$Article" "gaiety" "I") (by decide +kernel)) dX7_ofArticle_75 ?_
          obtain rfl := Option.some.inj hres
          exact W.iret hx hb hr (fun t ht hW => ⟨rfl, ht⟩) (fun _ h => absurd h List.not_mem_nil) dX7_ofArticle_78
        · replace hres := (if_neg c6).symm.trans hres
          by_cases c7 : a2 = 3
          · replace hres := (if_pos c7).symm.trans hres
            refine lv_tableIn (off := 55) (tgt := 79) hx hb dX7_ofArticle_24 (by rw [c7]; decide) (by rw [c7]; decide) (by rw [c7]; decide) (by decide) ?_
            refine lv_aload_n hx hb dX7_ofArticle_79 rfl (lv_at hl 0 rfl) ?_
            refine gC_X0_longing (inR_lt g3) hx hb hts in0 hown hK hI (hts (.fieldLink RX7 104 "TrickHouse$Article" "longing" "I") (by decide +kernel)) dX7_ofArticle_80 ?_
            obtain rfl := Option.some.inj hres
            exact W.iret hx hb hr (fun t ht hW => ⟨rfl, ht⟩) (fun _ h => absurd h List.not_mem_nil) dX7_ofArticle_83
          · replace hres := (if_neg c7).symm.trans hres
            by_cases c8 : a2 = 4
            · replace hres := (if_pos c8).symm.trans hres
              refine lv_tableIn (off := 60) (tgt := 84) hx hb dX7_ofArticle_24 (by rw [c8]; decide) (by rw [c8]; decide) (by rw [c8]; decide) (by decide) ?_
              refine lv_aload_n hx hb dX7_ofArticle_84 rfl (lv_at hl 0 rfl) ?_
              refine ro_v S (c_X0_laugh l D cy A X A0 v r a1.toNatClampNeg (inR_lt g3) _ rfl) (cwV 0 hts gX7_ofArticle_X0_laugh rfl rfl rfl (by decide +kernel) ⟨Nat.le_of_ble_eq_true rfl, Nat.le_of_ble_eq_true rfl⟩) hI hK hN (ci := 0) rfl (atC_art (inR_lt g3)) rfl rfl hl.1 rfl (Nat.le_of_ble_eq_true rfl) dX7_ofArticle_85 ⟨Nat.zero_le _, Nat.zero_le _⟩ ?_
              obtain rfl := Option.some.inj hres
              exact W.iret hx hb hr (fun t ht hW => ⟨rfl, ht⟩) (fun _ h => absurd h List.not_mem_nil) dX7_ofArticle_88
            · replace hres := (if_neg c8).symm.trans hres
              by_cases c10 : a2 = 5
              · replace hres := (if_pos c10).symm.trans hres
                refine lv_tableIn (off := 65) (tgt := 89) hx hb dX7_ofArticle_24 (by rw [c10]; decide) (by rw [c10]; decide) (by rw [c10]; decide) (by decide) ?_
                refine lv_aload_n hx hb dX7_ofArticle_89 rfl (lv_at hl 1 rfl) ?_
                refine gC_X7_house hx hb hts in7 hown hK hI (hts (.fieldLink RX7 12 "TrickHouse" "house" "LTrickHouse$House;") (by decide +kernel)) dX7_ofArticle_90 ?_
                refine gC_X1_present hx hb hts in1 hown hK hI (hts (.fieldLink RX7 111 "TrickHouse$House" "present" "I") (by decide +kernel)) dX7_ofArticle_93 ?_
                refine lv_iload_n hx hb dX7_ofArticle_96 rfl (lv_at hl 2 rfl) ?_
                refine pu_s S (c_X7_has l (v 5) a1 _ rfl) (va_cwS 2 hts gX7_ofArticle_X7_has rfl rfl rfl (by decide +kernel) ⟨Nat.le_of_ble_eq_true rfl, Nat.le_of_ble_eq_true rfl⟩) hN rfl hl.1 rfl (Nat.le_of_ble_eq_true rfl) dX7_ofArticle_97 ⟨Nat.zero_le _, Nat.zero_le _⟩ ?_
                refine lv_if_eq (tgt := 107) hx hb dX7_ofArticle_100 (by decide) (fun c12 => ?_) (fun c12 => ?_)
                · replace hres := (if_neg (bI_f c12)).symm.trans hres
                  refine lv_iconst (v := 0) hx hb dX7_ofArticle_107 (by decide) ?_
                  obtain rfl := Option.some.inj hres
                  exact W.iret hx hb hr (fun t ht hW => ⟨rfl, ht⟩) (fun _ h => absurd h List.not_mem_nil) dX7_ofArticle_108
                · replace hres := (if_pos (bI_t c12)).symm.trans hres
                  refine lv_iconst (v := 1) hx hb dX7_ofArticle_103 (by decide) ?_
                  refine lv_goto (tgt := 108) hx hb dX7_ofArticle_104 (by decide) ?_
                  obtain rfl := Option.some.inj hres
                  exact W.iret hx hb hr (fun t ht hW => ⟨rfl, ht⟩) (fun _ h => absurd h List.not_mem_nil) dX7_ofArticle_108
              · replace hres := (if_neg c10).symm.trans hres
                have e4 := lv_neT c4 (show (0 : Int32).toInt = 0 from rfl)
                have e5 := lv_neT c5 (show (1 : Int32).toInt = 1 from rfl)
                have e6 := lv_neT c6 (show (2 : Int32).toInt = 2 from rfl)
                have e7 := lv_neT c7 (show (3 : Int32).toInt = 3 from rfl)
                have e8 := lv_neT c8 (show (4 : Int32).toInt = 4 from rfl)
                have e10 := lv_neT c10 (show (5 : Int32).toInt = 5 from rfl)
                refine lv_tableOut (tgt := 109) hx hb dX7_ofArticle_24 (by omega) (by decide) ?_
                refine lv_bipush (v := (-2)) hx hb dX7_ofArticle_109 (by decide) ?_
                obtain rfl := Option.some.inj hres
                exact W.iret hx hb hr (fun t ht hW => ⟨rfl, ht⟩) (fun _ h => absurd h List.not_mem_nil) dX7_ofArticle_111
  · replace hres := (if_neg (bI_f c2)).symm.trans hres
    refine lv_iconst (v := (-1)) hx hb dX7_ofArticle_11 (by decide) ?_
    obtain rfl := Option.some.inj hres
    exact W.iret hx hb hr (fun t ht hW => ⟨rfl, ht⟩) (fun _ h => absurd h List.not_mem_nil) dX7_ofArticle_12
abbrev rm_X7_space : Room := { frames := 1, cells := 0, slots := 0, locals := 21 }
def f_X7_space (v : Nat → Int32) (r : Nat → Nat → Int32) (a1 : Int32) : Option Int32 := (if (f_X1_isRoom v r a1) = true then if inR a1 4 = true then some ((r 4 a1.toNatClampNeg)) else none else some ((-1)))
set_option maxHeartbeats 4000000 in
set_option maxRecDepth 100000 in
theorem c_X7_space (l : Launch) (D : va_G) (cy : Nat → ClassId) (A : Nat → Nat) (X : va_W) (A0 : Nat → Prop) (v : Nat → Int32) (r : Nat → Nat → Int32) (a1 : Int32) (res : Int32) (hres : f_X7_space v r a1 = some res) : Met l yX7_space wsX7_space rm_X7_space (va_Pc [.ref (A 0), .int a1] (GW D (tyC cy) (pcC cy A v r ++ X) A0)) (QR (.int res)) 0 0 (fun _ => False) := by
  refine Met.ofW (cc := cX7_space) (maxL := 2) (ret := (some .int)) (by decide) rfl ?_
  intro p e s m args below meth c s₁ B hml hv
  obtain ⟨hargs, hP, hK, hD0, hN⟩ := hv
  have hx := B.exec
  have hb := B.bytes
  have hr := B.returns
  have hts := atoms_spec (ws := wsX7_space) B.pre
  have hown : s.vm.findClass RX7 = some m.cls := findClass_of_methodNamed B.named
  have hlocks := B.notSynchronized
  have hI : IW D (pcC cy A v r ++ X) A0 s.heap s.heap [] := ⟨hP, hD0, va_S.rf⟩
  have S : CallFix p m c cX7_space 2 s args wsX7_space RX7 := ⟨hx, hb, hml, hown, hts⟩
  have in1 : ∀ w ∈ wsX10, w ∈ wsX7_space := fun _ h => List.mem_cons_of_mem _ (List.mem_append_right _ h)
  have in7 : ∀ w ∈ wsX70, w ∈ wsX7_space := fun _ h => List.mem_cons_of_mem _ (List.mem_append_left _ (List.mem_append_right _ h))
  have hl := lv_entry ([.ref (A 0), .int a1]) (n := 2) (Nat.le_of_ble_eq_true rfl)
  have hE : entryFrame m args 2 = F0 m 0 ((lg_sl ([.ref (A 0), .int a1]) ++ List.replicate (2 - (lg_sl ([.ref (A 0), .int a1])).length) Slot.unset).toArray) [] := by rw [hargs]; exact lg_entry_eq m [.ref (A 0), .int a1] 2
  rw [hE]
  generalize (lg_sl ([.ref (A 0), .int a1]) ++ List.replicate (2 - (lg_sl ([.ref (A 0), .int a1])).length) Slot.unset).toArray = ls at hl ⊢
  have hl : lv_has ls 2 [(0, .ref (A 0)), (1, .int a1)] := hl
  unfold f_X7_space at hres
  refine lv_aload_n hx hb dX7_space_0 rfl (lv_at hl 0 rfl) ?_
  refine gC_X7_house hx hb hts in7 hown hK hI (hts (.fieldLink RX7 12 "TrickHouse" "house" "LTrickHouse$House;") (by decide +kernel)) dX7_space_1 ?_
  refine lv_iload_n hx hb dX7_space_4 rfl (lv_at hl 1 rfl) ?_
  refine ro_v S (c_X1_isRoom l D cy A X A0 v r a1 _ rfl) (cwV 1 hts gX7_space_X1_isRoom rfl rfl rfl (by decide +kernel) ⟨Nat.le_of_ble_eq_true rfl, Nat.le_of_ble_eq_true rfl⟩) hI hK hN (ci := 1) rfl (atC_1) rfl rfl hl.1 rfl (Nat.le_of_ble_eq_true rfl) dX7_space_5 ⟨Nat.zero_le _, Nat.zero_le _⟩ ?_
  refine lv_if_eq (tgt := 23) hx hb dX7_space_8 (by decide) (fun c2 => ?_) (fun c2 => ?_)
  · replace hres := (if_neg (bI_f c2)).symm.trans hres
    refine lv_iconst (v := (-1)) hx hb dX7_space_23 (by decide) ?_
    obtain rfl := Option.some.inj hres
    exact W.iret hx hb hr (fun t ht hW => ⟨rfl, ht⟩) (fun _ h => absurd h List.not_mem_nil) dX7_space_24
  · replace hres := (if_pos (bI_t c2)).symm.trans hres
    refine lv_aload_n hx hb dX7_space_11 rfl (lv_at hl 0 rfl) ?_
    refine gC_X7_house hx hb hts in7 hown hK hI (hts (.fieldLink RX7 12 "TrickHouse" "house" "LTrickHouse$House;") (by decide +kernel)) dX7_space_12 ?_
    refine gC_X1_spaces hx hb hts in1 hown hK hI (hts (.fieldLink RX7 121 "TrickHouse$House" "spaces" "[I") (by decide +kernel)) dX7_space_15 ?_
    refine lv_iload_n hx hb dX7_space_18 rfl (lv_at hl 1 rfl) ?_
    obtain ⟨g3, hres⟩ := gd hres
    refine th_ild hx hb hK hI 3 0 rfl rfl g3 dX7_space_19 ?_
    refine lv_goto (tgt := 24) hx hb dX7_space_20 (by decide) ?_
    obtain rfl := Option.some.inj hres
    exact W.iret hx hb hr (fun t ht hW => ⟨rfl, ht⟩) (fun _ h => absurd h List.not_mem_nil) dX7_space_24
abbrev rm_X7_cheer : Room := { frames := 1, cells := 0, slots := 0, locals := 22 }
def f_X7_cheer (v : Nat → Int32) (r : Nat → Nat → Int32) (a1 : Int32) (a2 : Int32) : Option (Int32 × ST) := (if (f_X1_isArticle v r a1) = true then (if (f_X7_within a2 (0 : Int32) (9 : Int32)) = true then if inR a1 6 = true then if inR a1 6 = true then some ((r 2 a1.toNatClampNeg), (v, (va_up r 2 (upd (r 2) a1.toNatClampNeg a2)))) else none else none else some ((-2), (v, r))) else some ((-1), (v, r)))
set_option maxHeartbeats 4000000 in
set_option maxRecDepth 100000 in
theorem c_X7_cheer (l : Launch) (D : va_G) (cy : Nat → ClassId) (A : Nat → Nat) (X : va_W) (A0 : Nat → Prop) (v : Nat → Int32) (r : Nat → Nat → Int32) (a1 : Int32) (a2 : Int32) (res : Int32) (v2 : Nat → Int32) (r2 : Nat → Nat → Int32) (hres : f_X7_cheer v r a1 a2 = some (res, (v2, r2))) : Met l yX7_cheer wsX7_cheer rm_X7_cheer (va_Pc [.ref (A 0), .int a1, .int a2] (GW D (tyC cy) (pcC cy A v r ++ X) A0)) (QW (some (.int res)) (GW D (tyC cy) (pcC cy A v2 r2 ++ X) A0) A0) 0 0 A0 := by
  refine Met.ofW (cc := cX7_cheer) (maxL := 4) (ret := (some .int)) (by decide) rfl ?_
  intro p e s m args below meth c s₁ B hml hv
  obtain ⟨hargs, hP, hK, hD0, hN⟩ := hv
  have hx := B.exec
  have hb := B.bytes
  have hr := B.returns
  have hts := atoms_spec (ws := wsX7_cheer) B.pre
  have hown : s.vm.findClass RX7 = some m.cls := findClass_of_methodNamed B.named
  have hlocks := B.notSynchronized
  have hI : IW D (pcC cy A v r ++ X) A0 s.heap s.heap [] := ⟨hP, hD0, va_S.rf⟩
  have S : CallFix p m c cX7_cheer 4 s args wsX7_cheer RX7 := ⟨hx, hb, hml, hown, hts⟩
  have in0 : ∀ w ∈ wsX00, w ∈ wsX7_cheer := fun _ h => List.mem_cons_of_mem _ (List.mem_append_right _ h)
  have in1 : ∀ w ∈ wsX10, w ∈ wsX7_cheer := fun _ h => List.mem_cons_of_mem _ (List.mem_append_left _ (List.mem_append_right _ h))
  have in7 : ∀ w ∈ wsX70, w ∈ wsX7_cheer := fun _ h => List.mem_cons_of_mem _ (List.mem_append_left _ (List.mem_append_left _ (List.mem_append_right _ h)))
  have hl := lv_entry ([.ref (A 0), .int a1, .int a2]) (n := 4) (Nat.le_of_ble_eq_true rfl)
  have hE : entryFrame m args 4 = F0 m 0 ((lg_sl ([.ref (A 0), .int a1, .int a2]) ++ List.replicate (4 - (lg_sl ([.ref (A 0), .int a1, .int a2])).length) Slot.unset).toArray) [] := by rw [hargs]; exact lg_entry_eq m [.ref (A 0), .int a1, .int a2] 4
  rw [hE]
  generalize (lg_sl ([.ref (A 0), .int a1, .int a2]) ++ List.replicate (4 - (lg_sl ([.ref (A 0), .int a1, .int a2])).length) Slot.unset).toArray = ls at hl ⊢
  have hl : lv_has ls 4 [(0, .ref (A 0)), (1, .int a1), (2, .int a2)] := hl
  unfold f_X7_cheer at hres
  refine lv_aload_n hx hb dX7_cheer_0 rfl (lv_at hl 0 rfl) ?_
  refine gC_X7_house hx hb hts in7 hown hK hI (hts (.fieldLink RX7 12 "TrickHouse" "house" "LTrickHouse$House;") (by decide +kernel)) dX7_cheer_1 ?_
  refine lv_iload_n hx hb dX7_cheer_4 rfl (lv_at hl 1 rfl) ?_
  refine ro_v S (c_X1_isArticle l D cy A X A0 v r a1 _ rfl) (cwV 1 hts gX7_cheer_X1_isArticle rfl rfl rfl (by decide +kernel) ⟨Nat.le_of_ble_eq_true rfl, Nat.le_of_ble_eq_true rfl⟩) hI hK hN (ci := 1) rfl (atC_1) rfl rfl hl.1 rfl (Nat.le_of_ble_eq_true rfl) dX7_cheer_5 ⟨Nat.zero_le _, Nat.zero_le _⟩ ?_
  refine lv_if_ne (tgt := 13) hx hb dX7_cheer_8 (by decide) (fun c2 => ?_) (fun c2 => ?_)
  · replace hres := (if_pos (bI_t c2)).symm.trans hres
    refine lv_iload_n hx hb dX7_cheer_13 rfl (lv_at hl 2 rfl) ?_
    refine lv_iconst (v := 0) hx hb dX7_cheer_14 (by decide) ?_
    refine lv_bipush (v := 9) hx hb dX7_cheer_15 (by decide) ?_
    refine pu_s S (c_X7_within l a2 (0 : Int32) (9 : Int32) _ rfl) (va_cwS 3 hts gX7_cheer_X7_within rfl rfl rfl (by decide +kernel) ⟨Nat.le_of_ble_eq_true rfl, Nat.le_of_ble_eq_true rfl⟩) hN rfl hl.1 rfl (Nat.le_of_ble_eq_true rfl) dX7_cheer_17 ⟨Nat.zero_le _, Nat.zero_le _⟩ ?_
    refine lv_if_ne (tgt := 26) hx hb dX7_cheer_20 (by decide) (fun c4 => ?_) (fun c4 => ?_)
    · replace hres := (if_pos (bI_t c4)).symm.trans hres
      refine lv_aload_n hx hb dX7_cheer_26 rfl (lv_at hl 0 rfl) ?_
      refine gC_X7_house hx hb hts in7 hown hK hI (hts (.fieldLink RX7 12 "TrickHouse" "house" "LTrickHouse$House;") (by decide +kernel)) dX7_cheer_27 ?_
      refine gC_X1_articles hx hb hts in1 hown hK hI (hts (.fieldLink RX7 89 "TrickHouse$House" "articles" "[LTrickHouse$Article;") (by decide +kernel)) dX7_cheer_30 ?_
      refine lv_iload_n hx hb dX7_cheer_33 rfl (lv_at hl 1 rfl) ?_
      obtain ⟨g5, hres⟩ := gd hres
      refine th_ald (f := fun k => A (13 + k)) hx hb hK hI 2 1 rfl rfl g5 dX7_cheer_34 ?_
      refine gC_X0_gaiety (inR_lt g5) hx hb hts in0 hown hK hI (hts (.fieldLink RX7 101 "TrickHouse$Article" "gaiety" "I") (by decide +kernel)) dX7_cheer_35 ?_
      refine lv_istore_n (lv' := [(3, .int (r 2 a1.toNatClampNeg)), (0, .ref (A 0)), (1, .int a1), (2, .int a2)]) hx hb dX7_cheer_38 rfl hl (by decide) rfl (fun ls hl => ?_)
      refine lv_aload_n hx hb dX7_cheer_39 rfl (lv_at hl 1 rfl) ?_
      refine gC_X7_house hx hb hts in7 hown hK hI (hts (.fieldLink RX7 12 "TrickHouse" "house" "LTrickHouse$House;") (by decide +kernel)) dX7_cheer_40 ?_
      refine gC_X1_articles hx hb hts in1 hown hK hI (hts (.fieldLink RX7 89 "TrickHouse$House" "articles" "[LTrickHouse$Article;") (by decide +kernel)) dX7_cheer_43 ?_
      refine lv_iload_n hx hb dX7_cheer_46 rfl (lv_at hl 2 rfl) ?_
      obtain ⟨g6, hres⟩ := gd hres
      refine th_ald (f := fun k => A (13 + k)) hx hb hK hI 2 1 rfl rfl g6 dX7_cheer_47 ?_
      refine lv_iload_n hx hb dX7_cheer_48 rfl (lv_at hl 3 rfl) ?_
      refine pC_X0_gaiety (inR_lt g6) hx hb hts in0 hown hK hI (hts (.fieldLink RX7 101 "TrickHouse$Article" "gaiety" "I") (by decide +kernel)) dX7_cheer_49 (fun H locs hI => ?_)
      refine lv_iload_n hx hb dX7_cheer_52 rfl (lv_at hl 0 rfl) ?_
      obtain ⟨rfl, rfl, rfl⟩ := pr3 hres
      exact W.iret hx hb hr (fun t ht hW => ⟨rfl, ⟨by rw [ht]; exact hI.1, va_K.moved hW.alike hK, hI.2.1, NW.warm hW hN⟩, hI.2.2.F ht⟩) hI.2.2.2.2 dX7_cheer_53
    · replace hres := (if_neg (bI_f c4)).symm.trans hres
      refine lv_bipush (v := (-2)) hx hb dX7_cheer_23 (by decide) ?_
      obtain ⟨rfl, rfl, rfl⟩ := pr3 hres
      exact W.iret hx hb hr (fun t ht hW => ⟨rfl, ⟨by rw [ht]; exact hI.1, va_K.moved hW.alike hK, hI.2.1, NW.warm hW hN⟩, hI.2.2.F ht⟩) hI.2.2.2.2 dX7_cheer_25
  · replace hres := (if_neg (bI_f c2)).symm.trans hres
    refine lv_iconst (v := (-1)) hx hb dX7_cheer_11 (by decide) ?_
    obtain ⟨rfl, rfl, rfl⟩ := pr3 hres
    exact W.iret hx hb hr (fun t ht hW => ⟨rfl, ⟨by rw [ht]; exact hI.1, va_K.moved hW.alike hK, hI.2.1, NW.warm hW hN⟩, hI.2.2.F ht⟩) hI.2.2.2.2 dX7_cheer_12
abbrev rm_X7_miss : Room := { frames := 1, cells := 0, slots := 0, locals := 22 }
def f_X7_miss (v : Nat → Int32) (r : Nat → Nat → Int32) (a1 : Int32) (a2 : Int32) : Option (Int32 × ST) := (if (f_X1_isArticle v r a1) = true then (if (f_X7_within a2 (0 : Int32) (49 : Int32)) = true then if inR a1 6 = true then if inR a1 6 = true then some ((r 3 a1.toNatClampNeg), (v, (va_up r 3 (upd (r 3) a1.toNatClampNeg a2)))) else none else none else some ((-2), (v, r))) else some ((-1), (v, r)))
set_option maxHeartbeats 4000000 in
set_option maxRecDepth 100000 in
theorem c_X7_miss (l : Launch) (D : va_G) (cy : Nat → ClassId) (A : Nat → Nat) (X : va_W) (A0 : Nat → Prop) (v : Nat → Int32) (r : Nat → Nat → Int32) (a1 : Int32) (a2 : Int32) (res : Int32) (v2 : Nat → Int32) (r2 : Nat → Nat → Int32) (hres : f_X7_miss v r a1 a2 = some (res, (v2, r2))) : Met l yX7_miss wsX7_miss rm_X7_miss (va_Pc [.ref (A 0), .int a1, .int a2] (GW D (tyC cy) (pcC cy A v r ++ X) A0)) (QW (some (.int res)) (GW D (tyC cy) (pcC cy A v2 r2 ++ X) A0) A0) 0 0 A0 := by
  refine Met.ofW (cc := cX7_miss) (maxL := 4) (ret := (some .int)) (by decide) rfl ?_
  intro p e s m args below meth c s₁ B hml hv
  obtain ⟨hargs, hP, hK, hD0, hN⟩ := hv
  have hx := B.exec
  have hb := B.bytes
  have hr := B.returns
  have hts := atoms_spec (ws := wsX7_miss) B.pre
  have hown : s.vm.findClass RX7 = some m.cls := findClass_of_methodNamed B.named
  have hlocks := B.notSynchronized
  have hI : IW D (pcC cy A v r ++ X) A0 s.heap s.heap [] := ⟨hP, hD0, va_S.rf⟩
  have S : CallFix p m c cX7_miss 4 s args wsX7_miss RX7 := ⟨hx, hb, hml, hown, hts⟩
  have in0 : ∀ w ∈ wsX00, w ∈ wsX7_miss := fun _ h => List.mem_cons_of_mem _ (List.mem_append_right _ h)
  have in1 : ∀ w ∈ wsX10, w ∈ wsX7_miss := fun _ h => List.mem_cons_of_mem _ (List.mem_append_left _ (List.mem_append_right _ h))
  have in7 : ∀ w ∈ wsX70, w ∈ wsX7_miss := fun _ h => List.mem_cons_of_mem _ (List.mem_append_left _ (List.mem_append_left _ (List.mem_append_right _ h)))
  have hl := lv_entry ([.ref (A 0), .int a1, .int a2]) (n := 4) (Nat.le_of_ble_eq_true rfl)
  have hE : entryFrame m args 4 = F0 m 0 ((lg_sl ([.ref (A 0), .int a1, .int a2]) ++ List.replicate (4 - (lg_sl ([.ref (A 0), .int a1, .int a2])).length) Slot.unset).toArray) [] := by rw [hargs]; exact lg_entry_eq m [.ref (A 0), .int a1, .int a2] 4
  rw [hE]
  generalize (lg_sl ([.ref (A 0), .int a1, .int a2]) ++ List.replicate (4 - (lg_sl ([.ref (A 0), .int a1, .int a2])).length) Slot.unset).toArray = ls at hl ⊢
  have hl : lv_has ls 4 [(0, .ref (A 0)), (1, .int a1), (2, .int a2)] := hl
  unfold f_X7_miss at hres
  refine lv_aload_n hx hb dX7_miss_0 rfl (lv_at hl 0 rfl) ?_
  refine gC_X7_house hx hb hts in7 hown hK hI (hts (.fieldLink RX7 12 "TrickHouse" "house" "LTrickHouse$House;") (by decide +kernel)) dX7_miss_1 ?_
  refine lv_iload_n hx hb dX7_miss_4 rfl (lv_at hl 1 rfl) ?_
  refine ro_v S (c_X1_isArticle l D cy A X A0 v r a1 _ rfl) (cwV 1 hts gX7_miss_X1_isArticle rfl rfl rfl (by decide +kernel) ⟨Nat.le_of_ble_eq_true rfl, Nat.le_of_ble_eq_true rfl⟩) hI hK hN (ci := 1) rfl (atC_1) rfl rfl hl.1 rfl (Nat.le_of_ble_eq_true rfl) dX7_miss_5 ⟨Nat.zero_le _, Nat.zero_le _⟩ ?_
  refine lv_if_ne (tgt := 13) hx hb dX7_miss_8 (by decide) (fun c2 => ?_) (fun c2 => ?_)
  · replace hres := (if_pos (bI_t c2)).symm.trans hres
    refine lv_iload_n hx hb dX7_miss_13 rfl (lv_at hl 2 rfl) ?_
    refine lv_iconst (v := 0) hx hb dX7_miss_14 (by decide) ?_
    refine lv_bipush (v := 49) hx hb dX7_miss_15 (by decide) ?_
    refine pu_s S (c_X7_within l a2 (0 : Int32) (49 : Int32) _ rfl) (va_cwS 3 hts gX7_miss_X7_within rfl rfl rfl (by decide +kernel) ⟨Nat.le_of_ble_eq_true rfl, Nat.le_of_ble_eq_true rfl⟩) hN rfl hl.1 rfl (Nat.le_of_ble_eq_true rfl) dX7_miss_17 ⟨Nat.zero_le _, Nat.zero_le _⟩ ?_
    refine lv_if_ne (tgt := 26) hx hb dX7_miss_20 (by decide) (fun c4 => ?_) (fun c4 => ?_)
    · replace hres := (if_pos (bI_t c4)).symm.trans hres
      refine lv_aload_n hx hb dX7_miss_26 rfl (lv_at hl 0 rfl) ?_
      refine gC_X7_house hx hb hts in7 hown hK hI (hts (.fieldLink RX7 12 "TrickHouse" "house" "LTrickHouse$House;") (by decide +kernel)) dX7_miss_27 ?_
      refine gC_X1_articles hx hb hts in1 hown hK hI (hts (.fieldLink RX7 89 "TrickHouse$House" "articles" "[LTrickHouse$Article;") (by decide +kernel)) dX7_miss_30 ?_
      refine lv_iload_n hx hb dX7_miss_33 rfl (lv_at hl 1 rfl) ?_
      obtain ⟨g5, hres⟩ := gd hres
      refine th_ald (f := fun k => A (13 + k)) hx hb hK hI 2 1 rfl rfl g5 dX7_miss_34 ?_
      refine gC_X0_longing (inR_lt g5) hx hb hts in0 hown hK hI (hts (.fieldLink RX7 104 "TrickHouse$Article" "longing" "I") (by decide +kernel)) dX7_miss_35 ?_
      refine lv_istore_n (lv' := [(3, .int (r 3 a1.toNatClampNeg)), (0, .ref (A 0)), (1, .int a1), (2, .int a2)]) hx hb dX7_miss_38 rfl hl (by decide) rfl (fun ls hl => ?_)
      refine lv_aload_n hx hb dX7_miss_39 rfl (lv_at hl 1 rfl) ?_
      refine gC_X7_house hx hb hts in7 hown hK hI (hts (.fieldLink RX7 12 "TrickHouse" "house" "LTrickHouse$House;") (by decide +kernel)) dX7_miss_40 ?_
      refine gC_X1_articles hx hb hts in1 hown hK hI (hts (.fieldLink RX7 89 "TrickHouse$House" "articles" "[LTrickHouse$Article;") (by decide +kernel)) dX7_miss_43 ?_
      refine lv_iload_n hx hb dX7_miss_46 rfl (lv_at hl 2 rfl) ?_
      obtain ⟨g6, hres⟩ := gd hres
      refine th_ald (f := fun k => A (13 + k)) hx hb hK hI 2 1 rfl rfl g6 dX7_miss_47 ?_
      refine lv_iload_n hx hb dX7_miss_48 rfl (lv_at hl 3 rfl) ?_
      refine pC_X0_longing (inR_lt g6) hx hb hts in0 hown hK hI (hts (.fieldLink RX7 104 "TrickHouse$Article" "longing" "I") (by decide +kernel)) dX7_miss_49 (fun H locs hI => ?_)
      refine lv_iload_n hx hb dX7_miss_52 rfl (lv_at hl 0 rfl) ?_
      obtain ⟨rfl, rfl, rfl⟩ := pr3 hres
      exact W.iret hx hb hr (fun t ht hW => ⟨rfl, ⟨by rw [ht]; exact hI.1, va_K.moved hW.alike hK, hI.2.1, NW.warm hW hN⟩, hI.2.2.F ht⟩) hI.2.2.2.2 dX7_miss_53
    · replace hres := (if_neg (bI_f c4)).symm.trans hres
      refine lv_bipush (v := (-2)) hx hb dX7_miss_23 (by decide) ?_
      obtain ⟨rfl, rfl, rfl⟩ := pr3 hres
      exact W.iret hx hb hr (fun t ht hW => ⟨rfl, ⟨by rw [ht]; exact hI.1, va_K.moved hW.alike hK, hI.2.1, NW.warm hW hN⟩, hI.2.2.F ht⟩) hI.2.2.2.2 dX7_miss_25
  · replace hres := (if_neg (bI_f c2)).symm.trans hres
    refine lv_iconst (v := (-1)) hx hb dX7_miss_11 (by decide) ?_
    obtain ⟨rfl, rfl, rfl⟩ := pr3 hres
    exact W.iret hx hb hr (fun t ht hW => ⟨rfl, ⟨by rw [ht]; exact hI.1, va_K.moved hW.alike hK, hI.2.1, NW.warm hW hN⟩, hI.2.2.F ht⟩) hI.2.2.2.2 dX7_miss_12
abbrev rm_X7_widen : Room := { frames := 1, cells := 0, slots := 0, locals := 22 }
def f_X7_widen (v : Nat → Int32) (r : Nat → Nat → Int32) (a1 : Int32) (a2 : Int32) : Option (Int32 × ST) := (if (f_X1_isRoom v r a1) = true then (if (f_X7_within a2 (1 : Int32) (9 : Int32)) = true then if inR a1 4 = true then if inR a1 4 = true then some ((r 4 a1.toNatClampNeg), (v, (va_up r 4 (upd (r 4) a1.toNatClampNeg a2)))) else none else none else some ((-2), (v, r))) else some ((-1), (v, r)))
set_option maxHeartbeats 4000000 in
set_option maxRecDepth 100000 in
theorem c_X7_widen (l : Launch) (D : va_G) (cy : Nat → ClassId) (A : Nat → Nat) (X : va_W) (A0 : Nat → Prop) (v : Nat → Int32) (r : Nat → Nat → Int32) (a1 : Int32) (a2 : Int32) (res : Int32) (v2 : Nat → Int32) (r2 : Nat → Nat → Int32) (hres : f_X7_widen v r a1 a2 = some (res, (v2, r2))) : Met l yX7_widen wsX7_widen rm_X7_widen (va_Pc [.ref (A 0), .int a1, .int a2] (GW D (tyC cy) (pcC cy A v r ++ X) A0)) (QW (some (.int res)) (GW D (tyC cy) (pcC cy A v2 r2 ++ X) A0) A0) 0 0 A0 := by
  refine Met.ofW (cc := cX7_widen) (maxL := 4) (ret := (some .int)) (by decide) rfl ?_
  intro p e s m args below meth c s₁ B hml hv
  obtain ⟨hargs, hP, hK, hD0, hN⟩ := hv
  have hx := B.exec
  have hb := B.bytes
  have hr := B.returns
  have hts := atoms_spec (ws := wsX7_widen) B.pre
  have hown : s.vm.findClass RX7 = some m.cls := findClass_of_methodNamed B.named
  have hlocks := B.notSynchronized
  have hI : IW D (pcC cy A v r ++ X) A0 s.heap s.heap [] := ⟨hP, hD0, va_S.rf⟩
  have S : CallFix p m c cX7_widen 4 s args wsX7_widen RX7 := ⟨hx, hb, hml, hown, hts⟩
  have in1 : ∀ w ∈ wsX10, w ∈ wsX7_widen := fun _ h => List.mem_cons_of_mem _ (List.mem_append_right _ h)
  have in7 : ∀ w ∈ wsX70, w ∈ wsX7_widen := fun _ h => List.mem_cons_of_mem _ (List.mem_append_left _ (List.mem_append_right _ h))
  have hl := lv_entry ([.ref (A 0), .int a1, .int a2]) (n := 4) (Nat.le_of_ble_eq_true rfl)
  have hE : entryFrame m args 4 = F0 m 0 ((lg_sl ([.ref (A 0), .int a1, .int a2]) ++ List.replicate (4 - (lg_sl ([.ref (A 0), .int a1, .int a2])).length) Slot.unset).toArray) [] := by rw [hargs]; exact lg_entry_eq m [.ref (A 0), .int a1, .int a2] 4
  rw [hE]
  generalize (lg_sl ([.ref (A 0), .int a1, .int a2]) ++ List.replicate (4 - (lg_sl ([.ref (A 0), .int a1, .int a2])).length) Slot.unset).toArray = ls at hl ⊢
  have hl : lv_has ls 4 [(0, .ref (A 0)), (1, .int a1), (2, .int a2)] := hl
  unfold f_X7_widen at hres
  refine lv_aload_n hx hb dX7_widen_0 rfl (lv_at hl 0 rfl) ?_
  refine gC_X7_house hx hb hts in7 hown hK hI (hts (.fieldLink RX7 12 "TrickHouse" "house" "LTrickHouse$House;") (by decide +kernel)) dX7_widen_1 ?_
  refine lv_iload_n hx hb dX7_widen_4 rfl (lv_at hl 1 rfl) ?_
  refine ro_v S (c_X1_isRoom l D cy A X A0 v r a1 _ rfl) (cwV 1 hts gX7_widen_X1_isRoom rfl rfl rfl (by decide +kernel) ⟨Nat.le_of_ble_eq_true rfl, Nat.le_of_ble_eq_true rfl⟩) hI hK hN (ci := 1) rfl (atC_1) rfl rfl hl.1 rfl (Nat.le_of_ble_eq_true rfl) dX7_widen_5 ⟨Nat.zero_le _, Nat.zero_le _⟩ ?_
  refine lv_if_ne (tgt := 13) hx hb dX7_widen_8 (by decide) (fun c2 => ?_) (fun c2 => ?_)
  · replace hres := (if_pos (bI_t c2)).symm.trans hres
    refine lv_iload_n hx hb dX7_widen_13 rfl (lv_at hl 2 rfl) ?_
    refine lv_iconst (v := 1) hx hb dX7_widen_14 (by decide) ?_
    refine lv_bipush (v := 9) hx hb dX7_widen_15 (by decide) ?_
    refine pu_s S (c_X7_within l a2 (1 : Int32) (9 : Int32) _ rfl) (va_cwS 3 hts gX7_widen_X7_within rfl rfl rfl (by decide +kernel) ⟨Nat.le_of_ble_eq_true rfl, Nat.le_of_ble_eq_true rfl⟩) hN rfl hl.1 rfl (Nat.le_of_ble_eq_true rfl) dX7_widen_17 ⟨Nat.zero_le _, Nat.zero_le _⟩ ?_
    refine lv_if_ne (tgt := 26) hx hb dX7_widen_20 (by decide) (fun c4 => ?_) (fun c4 => ?_)
    · replace hres := (if_pos (bI_t c4)).symm.trans hres
      refine lv_aload_n hx hb dX7_widen_26 rfl (lv_at hl 0 rfl) ?_
      refine gC_X7_house hx hb hts in7 hown hK hI (hts (.fieldLink RX7 12 "TrickHouse" "house" "LTrickHouse$House;") (by decide +kernel)) dX7_widen_27 ?_
      refine gC_X1_spaces hx hb hts in1 hown hK hI (hts (.fieldLink RX7 121 "TrickHouse$House" "spaces" "[I") (by decide +kernel)) dX7_widen_30 ?_
      refine lv_iload_n hx hb dX7_widen_33 rfl (lv_at hl 1 rfl) ?_
      obtain ⟨g5, hres⟩ := gd hres
      refine th_ild hx hb hK hI 3 0 rfl rfl g5 dX7_widen_34 ?_
      refine lv_istore_n (lv' := [(3, .int (r 4 a1.toNatClampNeg)), (0, .ref (A 0)), (1, .int a1), (2, .int a2)]) hx hb dX7_widen_35 rfl hl (by decide) rfl (fun ls hl => ?_)
      refine lv_aload_n hx hb dX7_widen_36 rfl (lv_at hl 1 rfl) ?_
      refine gC_X7_house hx hb hts in7 hown hK hI (hts (.fieldLink RX7 12 "TrickHouse" "house" "LTrickHouse$House;") (by decide +kernel)) dX7_widen_37 ?_
      refine gC_X1_spaces hx hb hts in1 hown hK hI (hts (.fieldLink RX7 121 "TrickHouse$House" "spaces" "[I") (by decide +kernel)) dX7_widen_40 ?_
      refine lv_iload_n hx hb dX7_widen_43 rfl (lv_at hl 2 rfl) ?_
      refine lv_iload_n hx hb dX7_widen_44 rfl (lv_at hl 3 rfl) ?_
      obtain ⟨g6, hres⟩ := gd hres
      refine th_ist hx hb hK hI 3 0 rfl rfl g6 stC_r4 dX7_widen_45 (fun H locs hI => ?_)
      refine lv_iload_n hx hb dX7_widen_46 rfl (lv_at hl 0 rfl) ?_
      obtain ⟨rfl, rfl, rfl⟩ := pr3 hres
      exact W.iret hx hb hr (fun t ht hW => ⟨rfl, ⟨by rw [ht]; exact hI.1, va_K.moved hW.alike hK, hI.2.1, NW.warm hW hN⟩, hI.2.2.F ht⟩) hI.2.2.2.2 dX7_widen_47
    · replace hres := (if_neg (bI_f c4)).symm.trans hres
      refine lv_bipush (v := (-2)) hx hb dX7_widen_23 (by decide) ?_
      obtain ⟨rfl, rfl, rfl⟩ := pr3 hres
      exact W.iret hx hb hr (fun t ht hW => ⟨rfl, ⟨by rw [ht]; exact hI.1, va_K.moved hW.alike hK, hI.2.1, NW.warm hW hN⟩, hI.2.2.F ht⟩) hI.2.2.2.2 dX7_widen_25
  · replace hres := (if_neg (bI_f c2)).symm.trans hres
    refine lv_iconst (v := (-1)) hx hb dX7_widen_11 (by decide) ?_
    obtain ⟨rfl, rfl, rfl⟩ := pr3 hres
    exact W.iret hx hb hr (fun t ht hW => ⟨rfl, ⟨by rw [ht]; exact hI.1, va_K.moved hW.alike hK, hI.2.1, NW.warm hW hN⟩, hI.2.2.F ht⟩) hI.2.2.2.2 dX7_widen_12
abbrev rm_X7_shift : Room := { frames := 2, cells := 0, slots := 0, locals := 42 }
def f_X7_shift (v : Nat → Int32) (r : Nat → Nat → Int32) (a1 : Int32) : Option (Int32 × ST) := (if (f_X7_isCorner a1) = true then (if (f_X1_stands v r) = true then some ((v 4), ((upd v 4 a1), r)) else some ((-3), (v, r))) else some ((-2), (v, r)))
set_option maxHeartbeats 4000000 in
set_option maxRecDepth 100000 in
theorem c_X7_shift (l : Launch) (D : va_G) (cy : Nat → ClassId) (A : Nat → Nat) (X : va_W) (A0 : Nat → Prop) (v : Nat → Int32) (r : Nat → Nat → Int32) (a1 : Int32) (res : Int32) (v2 : Nat → Int32) (r2 : Nat → Nat → Int32) (hres : f_X7_shift v r a1 = some (res, (v2, r2))) : Met l yX7_shift wsX7_shift rm_X7_shift (va_Pc [.ref (A 0), .int a1] (GW D (tyC cy) (pcC cy A v r ++ X) A0)) (QW (some (.int res)) (GW D (tyC cy) (pcC cy A v2 r2 ++ X) A0) A0) 0 0 A0 := by
  refine Met.ofW (cc := cX7_shift) (maxL := 3) (ret := (some .int)) (by decide) rfl ?_
  intro p e s m args below meth c s₁ B hml hv
  obtain ⟨hargs, hP, hK, hD0, hN⟩ := hv
  have hx := B.exec
  have hb := B.bytes
  have hr := B.returns
  have hts := atoms_spec (ws := wsX7_shift) B.pre
  have hown : s.vm.findClass RX7 = some m.cls := findClass_of_methodNamed B.named
  have hlocks := B.notSynchronized
  have hI : IW D (pcC cy A v r ++ X) A0 s.heap s.heap [] := ⟨hP, hD0, va_S.rf⟩
  have S : CallFix p m c cX7_shift 3 s args wsX7_shift RX7 := ⟨hx, hb, hml, hown, hts⟩
  have in1 : ∀ w ∈ wsX10, w ∈ wsX7_shift := fun _ h => List.mem_cons_of_mem _ (List.mem_append_right _ h)
  have in7 : ∀ w ∈ wsX70, w ∈ wsX7_shift := fun _ h => List.mem_cons_of_mem _ (List.mem_append_left _ (List.mem_append_right _ h))
  have hl := lv_entry ([.ref (A 0), .int a1]) (n := 3) (Nat.le_of_ble_eq_true rfl)
  have hE : entryFrame m args 3 = F0 m 0 ((lg_sl ([.ref (A 0), .int a1]) ++ List.replicate (3 - (lg_sl ([.ref (A 0), .int a1])).length) Slot.unset).toArray) [] := by rw [hargs]; exact lg_entry_eq m [.ref (A 0), .int a1] 3
  rw [hE]
  generalize (lg_sl ([.ref (A 0), .int a1]) ++ List.replicate (3 - (lg_sl ([.ref (A 0), .int a1])).length) Slot.unset).toArray = ls at hl ⊢
  have hl : lv_has ls 3 [(0, .ref (A 0)), (1, .int a1)] := hl
  unfold f_X7_shift at hres
  refine lv_iload_n hx hb dX7_shift_0 rfl (lv_at hl 1 rfl) ?_
  refine pu_s S (c_X7_isCorner l a1 _ rfl) (va_cwS 1 hts gX7_shift_X7_isCorner rfl rfl rfl (by decide +kernel) ⟨Nat.le_of_ble_eq_true rfl, Nat.le_of_ble_eq_true rfl⟩) hN rfl hl.1 rfl (Nat.le_of_ble_eq_true rfl) dX7_shift_1 ⟨Nat.zero_le _, Nat.zero_le _⟩ ?_
  refine lv_if_ne (tgt := 10) hx hb dX7_shift_4 (by decide) (fun c2 => ?_) (fun c2 => ?_)
  · replace hres := (if_pos (bI_t c2)).symm.trans hres
    refine lv_aload_n hx hb dX7_shift_10 rfl (lv_at hl 0 rfl) ?_
    refine gC_X7_house hx hb hts in7 hown hK hI (hts (.fieldLink RX7 12 "TrickHouse" "house" "LTrickHouse$House;") (by decide +kernel)) dX7_shift_11 ?_
    refine ro_v S (c_X1_stands l D cy A X A0 v r _ rfl) (cwV 0 hts gX7_shift_X1_stands rfl rfl rfl (by decide +kernel) ⟨Nat.le_of_ble_eq_true rfl, Nat.le_of_ble_eq_true rfl⟩) hI hK hN (ci := 1) rfl (atC_1) rfl rfl hl.1 rfl (Nat.le_of_ble_eq_true rfl) dX7_shift_14 ⟨Nat.zero_le _, Nat.zero_le _⟩ ?_
    refine lv_if_ne (tgt := 23) hx hb dX7_shift_17 (by decide) (fun c4 => ?_) (fun c4 => ?_)
    · replace hres := (if_pos (bI_t c4)).symm.trans hres
      refine lv_aload_n hx hb dX7_shift_23 rfl (lv_at hl 0 rfl) ?_
      refine gC_X7_house hx hb hts in7 hown hK hI (hts (.fieldLink RX7 12 "TrickHouse" "house" "LTrickHouse$House;") (by decide +kernel)) dX7_shift_24 ?_
      refine gC_X1_corner hx hb hts in1 hown hK hI (hts (.fieldLink RX7 136 "TrickHouse$House" "corner" "I") (by decide +kernel)) dX7_shift_27 ?_
      refine lv_istore_n (lv' := [(2, .int (v 4)), (0, .ref (A 0)), (1, .int a1)]) hx hb dX7_shift_30 rfl hl (by decide) rfl (fun ls hl => ?_)
      refine lv_aload_n hx hb dX7_shift_31 rfl (lv_at hl 1 rfl) ?_
      refine gC_X7_house hx hb hts in7 hown hK hI (hts (.fieldLink RX7 12 "TrickHouse" "house" "LTrickHouse$House;") (by decide +kernel)) dX7_shift_32 ?_
      refine lv_iload_n hx hb dX7_shift_35 rfl (lv_at hl 2 rfl) ?_
      refine pC_X1_corner hx hb hts in1 hown hK hI (hts (.fieldLink RX7 136 "TrickHouse$House" "corner" "I") (by decide +kernel)) dX7_shift_36 (fun H locs hI => ?_)
      refine lv_iload_n hx hb dX7_shift_39 rfl (lv_at hl 0 rfl) ?_
      obtain ⟨rfl, rfl, rfl⟩ := pr3 hres
      exact W.iret hx hb hr (fun t ht hW => ⟨rfl, ⟨by rw [ht]; exact hI.1, va_K.moved hW.alike hK, hI.2.1, NW.warm hW hN⟩, hI.2.2.F ht⟩) hI.2.2.2.2 dX7_shift_40
    · replace hres := (if_neg (bI_f c4)).symm.trans hres
      refine lv_bipush (v := (-3)) hx hb dX7_shift_20 (by decide) ?_
      obtain ⟨rfl, rfl, rfl⟩ := pr3 hres
      exact W.iret hx hb hr (fun t ht hW => ⟨rfl, ⟨by rw [ht]; exact hI.1, va_K.moved hW.alike hK, hI.2.1, NW.warm hW hN⟩, hI.2.2.F ht⟩) hI.2.2.2.2 dX7_shift_22
  · replace hres := (if_neg (bI_f c2)).symm.trans hres
    refine lv_bipush (v := (-2)) hx hb dX7_shift_7 (by decide) ?_
    obtain ⟨rfl, rfl, rfl⟩ := pr3 hres
    exact W.iret hx hb hr (fun t ht hW => ⟨rfl, ⟨by rw [ht]; exact hI.1, va_K.moved hW.alike hK, hI.2.1, NW.warm hW hN⟩, hI.2.2.F ht⟩) hI.2.2.2.2 dX7_shift_9
abbrev rm_X7_there : Room := { frames := 1, cells := 0, slots := 0, locals := 20 }
def f_X7_there (v : Nat → Int32) (r : Nat → Nat → Int32) : Int32 := (if (f_X1_stands v r) = true then ((v 5)) else ((-3)))
set_option maxHeartbeats 4000000 in
set_option maxRecDepth 100000 in
theorem c_X7_there (l : Launch) (D : va_G) (cy : Nat → ClassId) (A : Nat → Nat) (X : va_W) (A0 : Nat → Prop) (v : Nat → Int32) (r : Nat → Nat → Int32) (res : Int32) (hres : f_X7_there v r = res) : Met l yX7_there wsX7_there rm_X7_there (va_Pc [.ref (A 0)] (GW D (tyC cy) (pcC cy A v r ++ X) A0)) (QR (.int res)) 0 0 (fun _ => False) := by
  refine Met.ofW (cc := cX7_there) (maxL := 1) (ret := (some .int)) (by decide) rfl ?_
  intro p e s m args below meth c s₁ B hml hv
  obtain ⟨hargs, hP, hK, hD0, hN⟩ := hv
  have hx := B.exec
  have hb := B.bytes
  have hr := B.returns
  have hts := atoms_spec (ws := wsX7_there) B.pre
  have hown : s.vm.findClass RX7 = some m.cls := findClass_of_methodNamed B.named
  have hlocks := B.notSynchronized
  have hI : IW D (pcC cy A v r ++ X) A0 s.heap s.heap [] := ⟨hP, hD0, va_S.rf⟩
  have S : CallFix p m c cX7_there 1 s args wsX7_there RX7 := ⟨hx, hb, hml, hown, hts⟩
  have in1 : ∀ w ∈ wsX10, w ∈ wsX7_there := fun _ h => List.mem_cons_of_mem _ (List.mem_append_right _ h)
  have in7 : ∀ w ∈ wsX70, w ∈ wsX7_there := fun _ h => List.mem_cons_of_mem _ (List.mem_append_left _ (List.mem_append_right _ h))
  have hl := lv_entry ([.ref (A 0)]) (n := 1) (Nat.le_of_ble_eq_true rfl)
  have hE : entryFrame m args 1 = F0 m 0 ((lg_sl ([.ref (A 0)]) ++ List.replicate (1 - (lg_sl ([.ref (A 0)])).length) Slot.unset).toArray) [] := by rw [hargs]; exact lg_entry_eq m [.ref (A 0)] 1
  rw [hE]
  generalize (lg_sl ([.ref (A 0)]) ++ List.replicate (1 - (lg_sl ([.ref (A 0)])).length) Slot.unset).toArray = ls at hl ⊢
  have hl : lv_has ls 1 [(0, .ref (A 0))] := hl
  unfold f_X7_there at hres
  refine lv_aload_n hx hb dX7_there_0 rfl (lv_at hl 0 rfl) ?_
  refine gC_X7_house hx hb hts in7 hown hK hI (hts (.fieldLink RX7 12 "TrickHouse" "house" "LTrickHouse$House;") (by decide +kernel)) dX7_there_1 ?_
  refine ro_v S (c_X1_stands l D cy A X A0 v r _ rfl) (cwV 0 hts gX7_there_X1_stands rfl rfl rfl (by decide +kernel) ⟨Nat.le_of_ble_eq_true rfl, Nat.le_of_ble_eq_true rfl⟩) hI hK hN (ci := 1) rfl (atC_1) rfl rfl hl.1 rfl (Nat.le_of_ble_eq_true rfl) dX7_there_4 ⟨Nat.zero_le _, Nat.zero_le _⟩ ?_
  refine lv_if_eq (tgt := 20) hx hb dX7_there_7 (by decide) (fun c2 => ?_) (fun c2 => ?_)
  · replace hres := (if_neg (bI_f c2)).symm.trans hres
    refine lv_bipush (v := (-3)) hx hb dX7_there_20 (by decide) ?_
    obtain rfl := hres
    exact W.iret hx hb hr (fun t ht hW => ⟨rfl, ht⟩) (fun _ h => absurd h List.not_mem_nil) dX7_there_22
  · replace hres := (if_pos (bI_t c2)).symm.trans hres
    refine lv_aload_n hx hb dX7_there_10 rfl (lv_at hl 0 rfl) ?_
    refine gC_X7_house hx hb hts in7 hown hK hI (hts (.fieldLink RX7 12 "TrickHouse" "house" "LTrickHouse$House;") (by decide +kernel)) dX7_there_11 ?_
    refine gC_X1_present hx hb hts in1 hown hK hI (hts (.fieldLink RX7 111 "TrickHouse$House" "present" "I") (by decide +kernel)) dX7_there_14 ?_
    refine lv_goto (tgt := 22) hx hb dX7_there_17 (by decide) ?_
    obtain rfl := hres
    exact W.iret hx hb hr (fun t ht hW => ⟨rfl, ht⟩) (fun _ h => absurd h List.not_mem_nil) dX7_there_22
abbrev rm_X7_company : Room := { frames := 5, cells := 0, slots := 0, locals := 112 }
def f_X7_company (v : Nat → Int32) (r : Nat → Nat → Int32) (a1 : Int32) : Option Int32 := (if (f_X1_stands v r) = true then (if (f_X1_isSet v r a1) = true then (f_X1_companyOf v r a1).bind (fun y5 => some (y5)) else some ((-2))) else some ((-3)))
set_option maxHeartbeats 4000000 in
set_option maxRecDepth 100000 in
theorem c_X7_company (l : Launch) (D : va_G) (cy : Nat → ClassId) (A : Nat → Nat) (X : va_W) (A0 : Nat → Prop) (v : Nat → Int32) (r : Nat → Nat → Int32) (a1 : Int32) (res : Int32) (hres : f_X7_company v r a1 = some res) : Met l yX7_company wsX7_company rm_X7_company (va_Pc [.ref (A 0), .int a1] (GW D (tyC cy) (pcC cy A v r ++ X) A0)) (QR (.int res)) 0 0 (fun _ => False) := by
  refine Met.ofW (cc := cX7_company) (maxL := 2) (ret := (some .int)) (by decide) rfl ?_
  intro p e s m args below meth c s₁ B hml hv
  obtain ⟨hargs, hP, hK, hD0, hN⟩ := hv
  have hx := B.exec
  have hb := B.bytes
  have hr := B.returns
  have hts := atoms_spec (ws := wsX7_company) B.pre
  have hown : s.vm.findClass RX7 = some m.cls := findClass_of_methodNamed B.named
  have hlocks := B.notSynchronized
  have hI : IW D (pcC cy A v r ++ X) A0 s.heap s.heap [] := ⟨hP, hD0, va_S.rf⟩
  have S : CallFix p m c cX7_company 2 s args wsX7_company RX7 := ⟨hx, hb, hml, hown, hts⟩
  have in7 : ∀ w ∈ wsX70, w ∈ wsX7_company := fun _ h => List.mem_cons_of_mem _ (List.mem_append_left _ (List.mem_append_left _ (List.mem_append_right _ h)))
  have hl := lv_entry ([.ref (A 0), .int a1]) (n := 2) (Nat.le_of_ble_eq_true rfl)
  have hE : entryFrame m args 2 = F0 m 0 ((lg_sl ([.ref (A 0), .int a1]) ++ List.replicate (2 - (lg_sl ([.ref (A 0), .int a1])).length) Slot.unset).toArray) [] := by rw [hargs]; exact lg_entry_eq m [.ref (A 0), .int a1] 2
  rw [hE]
  generalize (lg_sl ([.ref (A 0), .int a1]) ++ List.replicate (2 - (lg_sl ([.ref (A 0), .int a1])).length) Slot.unset).toArray = ls at hl ⊢
  have hl : lv_has ls 2 [(0, .ref (A 0)), (1, .int a1)] := hl
  unfold f_X7_company at hres
  refine lv_aload_n hx hb dX7_company_0 rfl (lv_at hl 0 rfl) ?_
  refine gC_X7_house hx hb hts in7 hown hK hI (hts (.fieldLink RX7 12 "TrickHouse" "house" "LTrickHouse$House;") (by decide +kernel)) dX7_company_1 ?_
  refine ro_v S (c_X1_stands l D cy A X A0 v r _ rfl) (cwV 0 hts gX7_company_X1_stands rfl rfl rfl (by decide +kernel) ⟨Nat.le_of_ble_eq_true rfl, Nat.le_of_ble_eq_true rfl⟩) hI hK hN (ci := 1) rfl (atC_1) rfl rfl hl.1 rfl (Nat.le_of_ble_eq_true rfl) dX7_company_4 ⟨Nat.zero_le _, Nat.zero_le _⟩ ?_
  refine lv_if_ne (tgt := 13) hx hb dX7_company_7 (by decide) (fun c2 => ?_) (fun c2 => ?_)
  · replace hres := (if_pos (bI_t c2)).symm.trans hres
    refine lv_aload_n hx hb dX7_company_13 rfl (lv_at hl 0 rfl) ?_
    refine gC_X7_house hx hb hts in7 hown hK hI (hts (.fieldLink RX7 12 "TrickHouse" "house" "LTrickHouse$House;") (by decide +kernel)) dX7_company_14 ?_
    refine lv_iload_n hx hb dX7_company_17 rfl (lv_at hl 1 rfl) ?_
    refine ro_v S (c_X1_isSet l D cy A X A0 v r a1 _ rfl) (cwV 1 hts gX7_company_X1_isSet rfl rfl rfl (by decide +kernel) ⟨Nat.le_of_ble_eq_true rfl, Nat.le_of_ble_eq_true rfl⟩) hI hK hN (ci := 1) rfl (atC_1) rfl rfl hl.1 rfl (Nat.le_of_ble_eq_true rfl) dX7_company_18 ⟨Nat.zero_le _, Nat.zero_le _⟩ ?_
    refine lv_if_eq (tgt := 35) hx hb dX7_company_21 (by decide) (fun c4 => ?_) (fun c4 => ?_)
    · replace hres := (if_neg (bI_f c4)).symm.trans hres
      refine lv_bipush (v := (-2)) hx hb dX7_company_35 (by decide) ?_
      obtain rfl := Option.some.inj hres
      exact W.iret hx hb hr (fun t ht hW => ⟨rfl, ht⟩) (fun _ h => absurd h List.not_mem_nil) dX7_company_37
    · replace hres := (if_pos (bI_t c4)).symm.trans hres
      refine lv_aload_n hx hb dX7_company_24 rfl (lv_at hl 0 rfl) ?_
      refine gC_X7_house hx hb hts in7 hown hK hI (hts (.fieldLink RX7 12 "TrickHouse" "house" "LTrickHouse$House;") (by decide +kernel)) dX7_company_25 ?_
      refine lv_iload_n hx hb dX7_company_28 rfl (lv_at hl 1 rfl) ?_
      obtain ⟨y5, e5, hres⟩ := bd hres
      refine ro_v S (c_X1_companyOf l D cy A X A0 v r a1 y5 e5) (cwV 1 hts gX7_company_X1_companyOf rfl rfl rfl (by decide +kernel) ⟨Nat.le_of_ble_eq_true rfl, Nat.le_of_ble_eq_true rfl⟩) hI hK hN (ci := 1) rfl (atC_1) rfl rfl hl.1 rfl (Nat.le_of_ble_eq_true rfl) dX7_company_29 ⟨Nat.zero_le _, Nat.zero_le _⟩ ?_
      refine lv_goto (tgt := 37) hx hb dX7_company_32 (by decide) ?_
      obtain rfl := Option.some.inj hres
      exact W.iret hx hb hr (fun t ht hW => ⟨rfl, ht⟩) (fun _ h => absurd h List.not_mem_nil) dX7_company_37
  · replace hres := (if_neg (bI_f c2)).symm.trans hres
    refine lv_bipush (v := (-3)) hx hb dX7_company_10 (by decide) ?_
    obtain rfl := Option.some.inj hres
    exact W.iret hx hb hr (fun t ht hW => ⟨rfl, ht⟩) (fun _ h => absurd h List.not_mem_nil) dX7_company_12
abbrev rm_X7_send : Room := { frames := 6, cells := 0, slots := 0, locals := 133 }
def f_X7_send (v : Nat → Int32) (r : Nat → Nat → Int32) (a1 : Int32) : Option (Int32 × ST) := (if (f_X1_isArticle v r a1) = true then (if (f_X7_has (v 5) a1) = true then some ((-3), (v, r)) else (f_X1_keepCompanyOf v r ((v 5) ||| ((1 : Int32) <<< (a1 &&& 31)))).bind (fun y5 => some (y5.1, (y5.2.1, y5.2.2)))) else some ((-1), (v, r)))
set_option maxHeartbeats 4000000 in
set_option maxRecDepth 100000 in
theorem c_X7_send (l : Launch) (D : va_G) (cy : Nat → ClassId) (A : Nat → Nat) (X : va_W) (A0 : Nat → Prop) (v : Nat → Int32) (r : Nat → Nat → Int32) (a1 : Int32) (res : Int32) (v2 : Nat → Int32) (r2 : Nat → Nat → Int32) (hres : f_X7_send v r a1 = some (res, (v2, r2))) : Met l yX7_send wsX7_send rm_X7_send (va_Pc [.ref (A 0), .int a1] (GW D (tyC cy) (pcC cy A v r ++ X) A0)) (QW (some (.int res)) (GW D (tyC cy) (pcC cy A v2 r2 ++ X) A0) A0) 0 0 A0 := by
  refine Met.ofW (cc := cX7_send) (maxL := 2) (ret := (some .int)) (by decide) rfl ?_
  intro p e s m args below meth c s₁ B hml hv
  obtain ⟨hargs, hP, hK, hD0, hN⟩ := hv
  have hx := B.exec
  have hb := B.bytes
  have hr := B.returns
  have hts := atoms_spec (ws := wsX7_send) B.pre
  have hown : s.vm.findClass RX7 = some m.cls := findClass_of_methodNamed B.named
  have hlocks := B.notSynchronized
  have hI : IW D (pcC cy A v r ++ X) A0 s.heap s.heap [] := ⟨hP, hD0, va_S.rf⟩
  have S : CallFix p m c cX7_send 2 s args wsX7_send RX7 := ⟨hx, hb, hml, hown, hts⟩
  have in1 : ∀ w ∈ wsX10, w ∈ wsX7_send := fun _ h => List.mem_cons_of_mem _ (List.mem_append_left _ (List.mem_append_right _ h))
  have in7 : ∀ w ∈ wsX70, w ∈ wsX7_send := fun _ h => List.mem_cons_of_mem _ (List.mem_append_left _ (List.mem_append_left _ (List.mem_append_right _ h)))
  have hl := lv_entry ([.ref (A 0), .int a1]) (n := 2) (Nat.le_of_ble_eq_true rfl)
  have hE : entryFrame m args 2 = F0 m 0 ((lg_sl ([.ref (A 0), .int a1]) ++ List.replicate (2 - (lg_sl ([.ref (A 0), .int a1])).length) Slot.unset).toArray) [] := by rw [hargs]; exact lg_entry_eq m [.ref (A 0), .int a1] 2
  rw [hE]
  generalize (lg_sl ([.ref (A 0), .int a1]) ++ List.replicate (2 - (lg_sl ([.ref (A 0), .int a1])).length) Slot.unset).toArray = ls at hl ⊢
  have hl : lv_has ls 2 [(0, .ref (A 0)), (1, .int a1)] := hl
  unfold f_X7_send at hres
  refine lv_aload_n hx hb dX7_send_0 rfl (lv_at hl 0 rfl) ?_
  refine gC_X7_house hx hb hts in7 hown hK hI (hts (.fieldLink RX7 12 "TrickHouse" "house" "LTrickHouse$House;") (by decide +kernel)) dX7_send_1 ?_
  refine lv_iload_n hx hb dX7_send_4 rfl (lv_at hl 1 rfl) ?_
  refine ro_v S (c_X1_isArticle l D cy A X A0 v r a1 _ rfl) (cwV 1 hts gX7_send_X1_isArticle rfl rfl rfl (by decide +kernel) ⟨Nat.le_of_ble_eq_true rfl, Nat.le_of_ble_eq_true rfl⟩) hI hK hN (ci := 1) rfl (atC_1) rfl rfl hl.1 rfl (Nat.le_of_ble_eq_true rfl) dX7_send_5 ⟨Nat.zero_le _, Nat.zero_le _⟩ ?_
  refine lv_if_ne (tgt := 13) hx hb dX7_send_8 (by decide) (fun c2 => ?_) (fun c2 => ?_)
  · replace hres := (if_pos (bI_t c2)).symm.trans hres
    refine lv_aload_n hx hb dX7_send_13 rfl (lv_at hl 0 rfl) ?_
    refine gC_X7_house hx hb hts in7 hown hK hI (hts (.fieldLink RX7 12 "TrickHouse" "house" "LTrickHouse$House;") (by decide +kernel)) dX7_send_14 ?_
    refine gC_X1_present hx hb hts in1 hown hK hI (hts (.fieldLink RX7 111 "TrickHouse$House" "present" "I") (by decide +kernel)) dX7_send_17 ?_
    refine lv_iload_n hx hb dX7_send_20 rfl (lv_at hl 1 rfl) ?_
    refine pu_s S (c_X7_has l (v 5) a1 _ rfl) (va_cwS 2 hts gX7_send_X7_has rfl rfl rfl (by decide +kernel) ⟨Nat.le_of_ble_eq_true rfl, Nat.le_of_ble_eq_true rfl⟩) hN rfl hl.1 rfl (Nat.le_of_ble_eq_true rfl) dX7_send_21 ⟨Nat.zero_le _, Nat.zero_le _⟩ ?_
    refine lv_if_eq (tgt := 30) hx hb dX7_send_24 (by decide) (fun c4 => ?_) (fun c4 => ?_)
    · replace hres := (if_neg (bI_f c4)).symm.trans hres
      refine lv_aload_n hx hb dX7_send_30 rfl (lv_at hl 0 rfl) ?_
      refine gC_X7_house hx hb hts in7 hown hK hI (hts (.fieldLink RX7 12 "TrickHouse" "house" "LTrickHouse$House;") (by decide +kernel)) dX7_send_31 ?_
      refine lv_aload_n hx hb dX7_send_34 rfl (lv_at hl 0 rfl) ?_
      refine gC_X7_house hx hb hts in7 hown hK hI (hts (.fieldLink RX7 12 "TrickHouse" "house" "LTrickHouse$House;") (by decide +kernel)) dX7_send_35 ?_
      refine gC_X1_present hx hb hts in1 hown hK hI (hts (.fieldLink RX7 111 "TrickHouse$House" "present" "I") (by decide +kernel)) dX7_send_38 ?_
      refine lv_iconst (v := 1) hx hb dX7_send_41 (by decide) ?_
      refine lv_iload_n hx hb dX7_send_42 rfl (lv_at hl 1 rfl) ?_
      refine lv_ishl hx hb dX7_send_43 ?_
      refine lv_ior hx hb dX7_send_44 ?_
      obtain ⟨y5, e5, hres⟩ := bd hres
      refine rw_v S (c_X1_keepCompanyOf l D cy A X A0 v r ((v 5) ||| ((1 : Int32) <<< (a1 &&& 31))) y5.1 y5.2.1 y5.2.2 e5) (cwV 1 hts gX7_send_X1_keepCompanyOf rfl rfl rfl (by decide +kernel) ⟨Nat.le_of_ble_eq_true rfl, Nat.le_of_ble_eq_true rfl⟩) hI hK hN (ci := 1) rfl (atC_1) rfl rfl hl.1 rfl (Nat.le_of_ble_eq_true rfl) dX7_send_45 ⟨Nat.zero_le _, Nat.zero_le _⟩ (fun H locs hI => ?_)
      obtain ⟨rfl, rfl, rfl⟩ := pr3 hres
      exact W.iret hx hb hr (fun t ht hW => ⟨rfl, ⟨by rw [ht]; exact hI.1, va_K.moved hW.alike hK, hI.2.1, NW.warm hW hN⟩, hI.2.2.F ht⟩) hI.2.2.2.2 dX7_send_48
    · replace hres := (if_pos (bI_t c4)).symm.trans hres
      refine lv_bipush (v := (-3)) hx hb dX7_send_27 (by decide) ?_
      obtain ⟨rfl, rfl, rfl⟩ := pr3 hres
      exact W.iret hx hb hr (fun t ht hW => ⟨rfl, ⟨by rw [ht]; exact hI.1, va_K.moved hW.alike hK, hI.2.1, NW.warm hW hN⟩, hI.2.2.F ht⟩) hI.2.2.2.2 dX7_send_29
  · replace hres := (if_neg (bI_f c2)).symm.trans hres
    refine lv_iconst (v := (-1)) hx hb dX7_send_11 (by decide) ?_
    obtain ⟨rfl, rfl, rfl⟩ := pr3 hres
    exact W.iret hx hb hr (fun t ht hW => ⟨rfl, ⟨by rw [ht]; exact hI.1, va_K.moved hW.alike hK, hI.2.1, NW.warm hW hN⟩, hI.2.2.F ht⟩) hI.2.2.2.2 dX7_send_12
abbrev rm_X7_call : Room := { frames := 6, cells := 0, slots := 0, locals := 133 }
def f_X7_call (v : Nat → Int32) (r : Nat → Nat → Int32) (a1 : Int32) : Option (Int32 × ST) := (if (f_X1_isArticle v r a1) = true then (if (f_X7_has (v 5) a1) = true then (f_X1_keepCompanyOf v r ((v 5) &&& (((1 : Int32) <<< (a1 &&& 31)) ^^^ (-1)))).bind (fun y5 => some (y5.1, (y5.2.1, y5.2.2))) else some ((-3), (v, r))) else some ((-1), (v, r)))
set_option maxHeartbeats 4000000 in
set_option maxRecDepth 100000 in
theorem c_X7_call (l : Launch) (D : va_G) (cy : Nat → ClassId) (A : Nat → Nat) (X : va_W) (A0 : Nat → Prop) (v : Nat → Int32) (r : Nat → Nat → Int32) (a1 : Int32) (res : Int32) (v2 : Nat → Int32) (r2 : Nat → Nat → Int32) (hres : f_X7_call v r a1 = some (res, (v2, r2))) : Met l yX7_call wsX7_call rm_X7_call (va_Pc [.ref (A 0), .int a1] (GW D (tyC cy) (pcC cy A v r ++ X) A0)) (QW (some (.int res)) (GW D (tyC cy) (pcC cy A v2 r2 ++ X) A0) A0) 0 0 A0 := by
  refine Met.ofW (cc := cX7_call) (maxL := 2) (ret := (some .int)) (by decide) rfl ?_
  intro p e s m args below meth c s₁ B hml hv
  obtain ⟨hargs, hP, hK, hD0, hN⟩ := hv
  have hx := B.exec
  have hb := B.bytes
  have hr := B.returns
  have hts := atoms_spec (ws := wsX7_call) B.pre
  have hown : s.vm.findClass RX7 = some m.cls := findClass_of_methodNamed B.named
  have hlocks := B.notSynchronized
  have hI : IW D (pcC cy A v r ++ X) A0 s.heap s.heap [] := ⟨hP, hD0, va_S.rf⟩
  have S : CallFix p m c cX7_call 2 s args wsX7_call RX7 := ⟨hx, hb, hml, hown, hts⟩
  have in1 : ∀ w ∈ wsX10, w ∈ wsX7_call := fun _ h => List.mem_cons_of_mem _ (List.mem_append_left _ (List.mem_append_right _ h))
  have in7 : ∀ w ∈ wsX70, w ∈ wsX7_call := fun _ h => List.mem_cons_of_mem _ (List.mem_append_left _ (List.mem_append_left _ (List.mem_append_right _ h)))
  have hl := lv_entry ([.ref (A 0), .int a1]) (n := 2) (Nat.le_of_ble_eq_true rfl)
  have hE : entryFrame m args 2 = F0 m 0 ((lg_sl ([.ref (A 0), .int a1]) ++ List.replicate (2 - (lg_sl ([.ref (A 0), .int a1])).length) Slot.unset).toArray) [] := by rw [hargs]; exact lg_entry_eq m [.ref (A 0), .int a1] 2
  rw [hE]
  generalize (lg_sl ([.ref (A 0), .int a1]) ++ List.replicate (2 - (lg_sl ([.ref (A 0), .int a1])).length) Slot.unset).toArray = ls at hl ⊢
  have hl : lv_has ls 2 [(0, .ref (A 0)), (1, .int a1)] := hl
  unfold f_X7_call at hres
  refine lv_aload_n hx hb dX7_call_0 rfl (lv_at hl 0 rfl) ?_
  refine gC_X7_house hx hb hts in7 hown hK hI (hts (.fieldLink RX7 12 "TrickHouse" "house" "LTrickHouse$House;") (by decide +kernel)) dX7_call_1 ?_
  refine lv_iload_n hx hb dX7_call_4 rfl (lv_at hl 1 rfl) ?_
  refine ro_v S (c_X1_isArticle l D cy A X A0 v r a1 _ rfl) (cwV 1 hts gX7_call_X1_isArticle rfl rfl rfl (by decide +kernel) ⟨Nat.le_of_ble_eq_true rfl, Nat.le_of_ble_eq_true rfl⟩) hI hK hN (ci := 1) rfl (atC_1) rfl rfl hl.1 rfl (Nat.le_of_ble_eq_true rfl) dX7_call_5 ⟨Nat.zero_le _, Nat.zero_le _⟩ ?_
  refine lv_if_ne (tgt := 13) hx hb dX7_call_8 (by decide) (fun c2 => ?_) (fun c2 => ?_)
  · replace hres := (if_pos (bI_t c2)).symm.trans hres
    refine lv_aload_n hx hb dX7_call_13 rfl (lv_at hl 0 rfl) ?_
    refine gC_X7_house hx hb hts in7 hown hK hI (hts (.fieldLink RX7 12 "TrickHouse" "house" "LTrickHouse$House;") (by decide +kernel)) dX7_call_14 ?_
    refine gC_X1_present hx hb hts in1 hown hK hI (hts (.fieldLink RX7 111 "TrickHouse$House" "present" "I") (by decide +kernel)) dX7_call_17 ?_
    refine lv_iload_n hx hb dX7_call_20 rfl (lv_at hl 1 rfl) ?_
    refine pu_s S (c_X7_has l (v 5) a1 _ rfl) (va_cwS 2 hts gX7_call_X7_has rfl rfl rfl (by decide +kernel) ⟨Nat.le_of_ble_eq_true rfl, Nat.le_of_ble_eq_true rfl⟩) hN rfl hl.1 rfl (Nat.le_of_ble_eq_true rfl) dX7_call_21 ⟨Nat.zero_le _, Nat.zero_le _⟩ ?_
    refine lv_if_ne (tgt := 30) hx hb dX7_call_24 (by decide) (fun c4 => ?_) (fun c4 => ?_)
    · replace hres := (if_pos (bI_t c4)).symm.trans hres
      refine lv_aload_n hx hb dX7_call_30 rfl (lv_at hl 0 rfl) ?_
      refine gC_X7_house hx hb hts in7 hown hK hI (hts (.fieldLink RX7 12 "TrickHouse" "house" "LTrickHouse$House;") (by decide +kernel)) dX7_call_31 ?_
      refine lv_aload_n hx hb dX7_call_34 rfl (lv_at hl 0 rfl) ?_
      refine gC_X7_house hx hb hts in7 hown hK hI (hts (.fieldLink RX7 12 "TrickHouse" "house" "LTrickHouse$House;") (by decide +kernel)) dX7_call_35 ?_
      refine gC_X1_present hx hb hts in1 hown hK hI (hts (.fieldLink RX7 111 "TrickHouse$House" "present" "I") (by decide +kernel)) dX7_call_38 ?_
      refine lv_iconst (v := 1) hx hb dX7_call_41 (by decide) ?_
      refine lv_iload_n hx hb dX7_call_42 rfl (lv_at hl 1 rfl) ?_
      refine lv_ishl hx hb dX7_call_43 ?_
      refine lv_iconst (v := (-1)) hx hb dX7_call_44 (by decide) ?_
      refine lv_ixor hx hb dX7_call_45 ?_
      refine lv_iand hx hb dX7_call_46 ?_
      obtain ⟨y5, e5, hres⟩ := bd hres
      refine rw_v S (c_X1_keepCompanyOf l D cy A X A0 v r ((v 5) &&& (((1 : Int32) <<< (a1 &&& 31)) ^^^ (-1))) y5.1 y5.2.1 y5.2.2 e5) (cwV 1 hts gX7_call_X1_keepCompanyOf rfl rfl rfl (by decide +kernel) ⟨Nat.le_of_ble_eq_true rfl, Nat.le_of_ble_eq_true rfl⟩) hI hK hN (ci := 1) rfl (atC_1) rfl rfl hl.1 rfl (Nat.le_of_ble_eq_true rfl) dX7_call_47 ⟨Nat.zero_le _, Nat.zero_le _⟩ (fun H locs hI => ?_)
      obtain ⟨rfl, rfl, rfl⟩ := pr3 hres
      exact W.iret hx hb hr (fun t ht hW => ⟨rfl, ⟨by rw [ht]; exact hI.1, va_K.moved hW.alike hK, hI.2.1, NW.warm hW hN⟩, hI.2.2.F ht⟩) hI.2.2.2.2 dX7_call_50
    · replace hres := (if_neg (bI_f c4)).symm.trans hres
      refine lv_bipush (v := (-3)) hx hb dX7_call_27 (by decide) ?_
      obtain ⟨rfl, rfl, rfl⟩ := pr3 hres
      exact W.iret hx hb hr (fun t ht hW => ⟨rfl, ⟨by rw [ht]; exact hI.1, va_K.moved hW.alike hK, hI.2.1, NW.warm hW hN⟩, hI.2.2.F ht⟩) hI.2.2.2.2 dX7_call_29
  · replace hres := (if_neg (bI_f c2)).symm.trans hres
    refine lv_iconst (v := (-1)) hx hb dX7_call_11 (by decide) ?_
    obtain ⟨rfl, rfl, rfl⟩ := pr3 hres
    exact W.iret hx hb hr (fun t ht hW => ⟨rfl, ⟨by rw [ht]; exact hI.1, va_K.moved hW.alike hK, hI.2.1, NW.warm hW hN⟩, hI.2.2.F ht⟩) hI.2.2.2.2 dX7_call_12
abbrev rm_X7_laughter : Room := { frames := 3, cells := 0, slots := 0, locals := 64 }
def f_X7_laughter (v : Nat → Int32) (r : Nat → Nat → Int32) : Option Int32 := (if (f_X1_stands v r) = true then (f_X1_laughOf v r (v 5)).bind (fun y3 => some (y3)) else some ((-3)))
set_option maxHeartbeats 4000000 in
set_option maxRecDepth 100000 in
theorem c_X7_laughter (l : Launch) (D : va_G) (cy : Nat → ClassId) (A : Nat → Nat) (X : va_W) (A0 : Nat → Prop) (v : Nat → Int32) (r : Nat → Nat → Int32) (res : Int32) (hres : f_X7_laughter v r = some res) : Met l yX7_laughter wsX7_laughter rm_X7_laughter (va_Pc [.ref (A 0)] (GW D (tyC cy) (pcC cy A v r ++ X) A0)) (QR (.int res)) 0 0 (fun _ => False) := by
  refine Met.ofW (cc := cX7_laughter) (maxL := 1) (ret := (some .int)) (by decide) rfl ?_
  intro p e s m args below meth c s₁ B hml hv
  obtain ⟨hargs, hP, hK, hD0, hN⟩ := hv
  have hx := B.exec
  have hb := B.bytes
  have hr := B.returns
  have hts := atoms_spec (ws := wsX7_laughter) B.pre
  have hown : s.vm.findClass RX7 = some m.cls := findClass_of_methodNamed B.named
  have hlocks := B.notSynchronized
  have hI : IW D (pcC cy A v r ++ X) A0 s.heap s.heap [] := ⟨hP, hD0, va_S.rf⟩
  have S : CallFix p m c cX7_laughter 1 s args wsX7_laughter RX7 := ⟨hx, hb, hml, hown, hts⟩
  have in1 : ∀ w ∈ wsX10, w ∈ wsX7_laughter := fun _ h => List.mem_cons_of_mem _ (List.mem_append_left _ (List.mem_append_right _ h))
  have in7 : ∀ w ∈ wsX70, w ∈ wsX7_laughter := fun _ h => List.mem_cons_of_mem _ (List.mem_append_left _ (List.mem_append_left _ (List.mem_append_right _ h)))
  have hl := lv_entry ([.ref (A 0)]) (n := 1) (Nat.le_of_ble_eq_true rfl)
  have hE : entryFrame m args 1 = F0 m 0 ((lg_sl ([.ref (A 0)]) ++ List.replicate (1 - (lg_sl ([.ref (A 0)])).length) Slot.unset).toArray) [] := by rw [hargs]; exact lg_entry_eq m [.ref (A 0)] 1
  rw [hE]
  generalize (lg_sl ([.ref (A 0)]) ++ List.replicate (1 - (lg_sl ([.ref (A 0)])).length) Slot.unset).toArray = ls at hl ⊢
  have hl : lv_has ls 1 [(0, .ref (A 0))] := hl
  unfold f_X7_laughter at hres
  refine lv_aload_n hx hb dX7_laughter_0 rfl (lv_at hl 0 rfl) ?_
  refine gC_X7_house hx hb hts in7 hown hK hI (hts (.fieldLink RX7 12 "TrickHouse" "house" "LTrickHouse$House;") (by decide +kernel)) dX7_laughter_1 ?_
  refine ro_v S (c_X1_stands l D cy A X A0 v r _ rfl) (cwV 0 hts gX7_laughter_X1_stands rfl rfl rfl (by decide +kernel) ⟨Nat.le_of_ble_eq_true rfl, Nat.le_of_ble_eq_true rfl⟩) hI hK hN (ci := 1) rfl (atC_1) rfl rfl hl.1 rfl (Nat.le_of_ble_eq_true rfl) dX7_laughter_4 ⟨Nat.zero_le _, Nat.zero_le _⟩ ?_
  refine lv_if_eq (tgt := 27) hx hb dX7_laughter_7 (by decide) (fun c2 => ?_) (fun c2 => ?_)
  · replace hres := (if_neg (bI_f c2)).symm.trans hres
    refine lv_bipush (v := (-3)) hx hb dX7_laughter_27 (by decide) ?_
    obtain rfl := Option.some.inj hres
    exact W.iret hx hb hr (fun t ht hW => ⟨rfl, ht⟩) (fun _ h => absurd h List.not_mem_nil) dX7_laughter_29
  · replace hres := (if_pos (bI_t c2)).symm.trans hres
    refine lv_aload_n hx hb dX7_laughter_10 rfl (lv_at hl 0 rfl) ?_
    refine gC_X7_house hx hb hts in7 hown hK hI (hts (.fieldLink RX7 12 "TrickHouse" "house" "LTrickHouse$House;") (by decide +kernel)) dX7_laughter_11 ?_
    refine lv_aload_n hx hb dX7_laughter_14 rfl (lv_at hl 0 rfl) ?_
    refine gC_X7_house hx hb hts in7 hown hK hI (hts (.fieldLink RX7 12 "TrickHouse" "house" "LTrickHouse$House;") (by decide +kernel)) dX7_laughter_15 ?_
    refine gC_X1_present hx hb hts in1 hown hK hI (hts (.fieldLink RX7 111 "TrickHouse$House" "present" "I") (by decide +kernel)) dX7_laughter_18 ?_
    obtain ⟨y3, e3, hres⟩ := bd hres
    refine ro_v S (c_X1_laughOf l D cy A X A0 v r (v 5) y3 e3) (cwV 1 hts gX7_laughter_X1_laughOf rfl rfl rfl (by decide +kernel) ⟨Nat.le_of_ble_eq_true rfl, Nat.le_of_ble_eq_true rfl⟩) hI hK hN (ci := 1) rfl (atC_1) rfl rfl hl.1 rfl (Nat.le_of_ble_eq_true rfl) dX7_laughter_21 ⟨Nat.zero_le _, Nat.zero_le _⟩ ?_
    refine lv_goto (tgt := 29) hx hb dX7_laughter_24 (by decide) ?_
    obtain rfl := Option.some.inj hres
    exact W.iret hx hb hr (fun t ht hW => ⟨rfl, ht⟩) (fun _ h => absurd h List.not_mem_nil) dX7_laughter_29
abbrev rm_X7_heard : Room := { frames := 3, cells := 0, slots := 0, locals := 64 }
def f_X7_heard (v : Nat → Int32) (r : Nat → Nat → Int32) (a1 : Int32) : Option Int32 := (if (f_X7_isCorner a1) = true then (if (f_X1_stands v r) = true then (f_X1_laughOf v r (v 5)).bind (fun y5 => some ((f_X7_carried y5 (v 4) a1))) else some ((-3))) else some ((-2)))
set_option maxHeartbeats 4000000 in
set_option maxRecDepth 100000 in
theorem c_X7_heard (l : Launch) (D : va_G) (cy : Nat → ClassId) (A : Nat → Nat) (X : va_W) (A0 : Nat → Prop) (v : Nat → Int32) (r : Nat → Nat → Int32) (a1 : Int32) (res : Int32) (hres : f_X7_heard v r a1 = some res) : Met l yX7_heard wsX7_heard rm_X7_heard (va_Pc [.ref (A 0), .int a1] (GW D (tyC cy) (pcC cy A v r ++ X) A0)) (QR (.int res)) 0 0 (fun _ => False) := by
  refine Met.ofW (cc := cX7_heard) (maxL := 2) (ret := (some .int)) (by decide) rfl ?_
  intro p e s m args below meth c s₁ B hml hv
  obtain ⟨hargs, hP, hK, hD0, hN⟩ := hv
  have hx := B.exec
  have hb := B.bytes
  have hr := B.returns
  have hts := atoms_spec (ws := wsX7_heard) B.pre
  have hown : s.vm.findClass RX7 = some m.cls := findClass_of_methodNamed B.named
  have hlocks := B.notSynchronized
  have hI : IW D (pcC cy A v r ++ X) A0 s.heap s.heap [] := ⟨hP, hD0, va_S.rf⟩
  have S : CallFix p m c cX7_heard 2 s args wsX7_heard RX7 := ⟨hx, hb, hml, hown, hts⟩
  have in1 : ∀ w ∈ wsX10, w ∈ wsX7_heard := fun _ h => List.mem_cons_of_mem _ (List.mem_append_left _ (List.mem_append_right _ h))
  have in7 : ∀ w ∈ wsX70, w ∈ wsX7_heard := fun _ h => List.mem_cons_of_mem _ (List.mem_append_left _ (List.mem_append_left _ (List.mem_append_right _ h)))
  have hl := lv_entry ([.ref (A 0), .int a1]) (n := 2) (Nat.le_of_ble_eq_true rfl)
  have hE : entryFrame m args 2 = F0 m 0 ((lg_sl ([.ref (A 0), .int a1]) ++ List.replicate (2 - (lg_sl ([.ref (A 0), .int a1])).length) Slot.unset).toArray) [] := by rw [hargs]; exact lg_entry_eq m [.ref (A 0), .int a1] 2
  rw [hE]
  generalize (lg_sl ([.ref (A 0), .int a1]) ++ List.replicate (2 - (lg_sl ([.ref (A 0), .int a1])).length) Slot.unset).toArray = ls at hl ⊢
  have hl : lv_has ls 2 [(0, .ref (A 0)), (1, .int a1)] := hl
  unfold f_X7_heard at hres
  refine lv_iload_n hx hb dX7_heard_0 rfl (lv_at hl 1 rfl) ?_
  refine pu_s S (c_X7_isCorner l a1 _ rfl) (va_cwS 1 hts gX7_heard_X7_isCorner rfl rfl rfl (by decide +kernel) ⟨Nat.le_of_ble_eq_true rfl, Nat.le_of_ble_eq_true rfl⟩) hN rfl hl.1 rfl (Nat.le_of_ble_eq_true rfl) dX7_heard_1 ⟨Nat.zero_le _, Nat.zero_le _⟩ ?_
  refine lv_if_ne (tgt := 10) hx hb dX7_heard_4 (by decide) (fun c2 => ?_) (fun c2 => ?_)
  · replace hres := (if_pos (bI_t c2)).symm.trans hres
    refine lv_aload_n hx hb dX7_heard_10 rfl (lv_at hl 0 rfl) ?_
    refine gC_X7_house hx hb hts in7 hown hK hI (hts (.fieldLink RX7 12 "TrickHouse" "house" "LTrickHouse$House;") (by decide +kernel)) dX7_heard_11 ?_
    refine ro_v S (c_X1_stands l D cy A X A0 v r _ rfl) (cwV 0 hts gX7_heard_X1_stands rfl rfl rfl (by decide +kernel) ⟨Nat.le_of_ble_eq_true rfl, Nat.le_of_ble_eq_true rfl⟩) hI hK hN (ci := 1) rfl (atC_1) rfl rfl hl.1 rfl (Nat.le_of_ble_eq_true rfl) dX7_heard_14 ⟨Nat.zero_le _, Nat.zero_le _⟩ ?_
    refine lv_if_ne (tgt := 23) hx hb dX7_heard_17 (by decide) (fun c4 => ?_) (fun c4 => ?_)
    · replace hres := (if_pos (bI_t c4)).symm.trans hres
      refine lv_aload_n hx hb dX7_heard_23 rfl (lv_at hl 0 rfl) ?_
      refine gC_X7_house hx hb hts in7 hown hK hI (hts (.fieldLink RX7 12 "TrickHouse" "house" "LTrickHouse$House;") (by decide +kernel)) dX7_heard_24 ?_
      refine lv_aload_n hx hb dX7_heard_27 rfl (lv_at hl 0 rfl) ?_
      refine gC_X7_house hx hb hts in7 hown hK hI (hts (.fieldLink RX7 12 "TrickHouse" "house" "LTrickHouse$House;") (by decide +kernel)) dX7_heard_28 ?_
      refine gC_X1_present hx hb hts in1 hown hK hI (hts (.fieldLink RX7 111 "TrickHouse$House" "present" "I") (by decide +kernel)) dX7_heard_31 ?_
      obtain ⟨y5, e5, hres⟩ := bd hres
      refine ro_v S (c_X1_laughOf l D cy A X A0 v r (v 5) y5 e5) (cwV 1 hts gX7_heard_X1_laughOf rfl rfl rfl (by decide +kernel) ⟨Nat.le_of_ble_eq_true rfl, Nat.le_of_ble_eq_true rfl⟩) hI hK hN (ci := 1) rfl (atC_1) rfl rfl hl.1 rfl (Nat.le_of_ble_eq_true rfl) dX7_heard_34 ⟨Nat.zero_le _, Nat.zero_le _⟩ ?_
      refine lv_aload_n hx hb dX7_heard_37 rfl (lv_at hl 0 rfl) ?_
      refine gC_X7_house hx hb hts in7 hown hK hI (hts (.fieldLink RX7 12 "TrickHouse" "house" "LTrickHouse$House;") (by decide +kernel)) dX7_heard_38 ?_
      refine gC_X1_corner hx hb hts in1 hown hK hI (hts (.fieldLink RX7 136 "TrickHouse$House" "corner" "I") (by decide +kernel)) dX7_heard_41 ?_
      refine lv_iload_n hx hb dX7_heard_44 rfl (lv_at hl 1 rfl) ?_
      refine pu_s S (c_X7_carried l y5 (v 4) a1 _ rfl) (va_cwS 3 hts gX7_heard_X7_carried rfl rfl rfl (by decide +kernel) ⟨Nat.le_of_ble_eq_true rfl, Nat.le_of_ble_eq_true rfl⟩) hN rfl hl.1 rfl (Nat.le_of_ble_eq_true rfl) dX7_heard_45 ⟨Nat.zero_le _, Nat.zero_le _⟩ ?_
      obtain rfl := Option.some.inj hres
      exact W.iret hx hb hr (fun t ht hW => ⟨rfl, ht⟩) (fun _ h => absurd h List.not_mem_nil) dX7_heard_48
    · replace hres := (if_neg (bI_f c4)).symm.trans hres
      refine lv_bipush (v := (-3)) hx hb dX7_heard_20 (by decide) ?_
      obtain rfl := Option.some.inj hres
      exact W.iret hx hb hr (fun t ht hW => ⟨rfl, ht⟩) (fun _ h => absurd h List.not_mem_nil) dX7_heard_22
  · replace hres := (if_neg (bI_f c2)).symm.trans hres
    refine lv_bipush (v := (-2)) hx hb dX7_heard_7 (by decide) ?_
    obtain rfl := Option.some.inj hres
    exact W.iret hx hb hr (fun t ht hW => ⟨rfl, ht⟩) (fun _ h => absurd h List.not_mem_nil) dX7_heard_9
abbrev rm_X7_year : Room := { frames := 7, cells := 0, slots := 0, locals := 159 }
def f_X7_year (v : Nat → Int32) (r : Nat → Nat → Int32) (a1 : Int32) (a2 : Int32) (a3 : Int32) (a4 : Int32) (a5 : Int32) : Option (Int32 × ST) := (if (f_X7_isSheet a1) = true then (if (f_X7_isLane a2) = true then (if (f_X7_within a4 (0 : Int32) (20 : Int32)) = true then (if (f_X7_within a5 (0 : Int32) (5 : Int32)) = true then if inR a1 4 = true then (if (f_X4_faultOfTaking (upd v 1 0) r a1.toNatClampNeg a2 a3 (2 * a4)) = 0 then (if (f_X1_stands (upd v 1 0) r) = true then (f_X6_refusalOf (upd v 1 0) r a1.toNatClampNeg a3 a4).bind (fun y14 => (if y14 = 0 then (f_X6_run (upd v 1 0) r a1.toNatClampNeg a3 a4).bind (fun y16 => (f_X6_answer y16.1 y16.2 a5).bind (fun y17 => some (y17, (y16.1, y16.2)))) else some (y14, ((upd v 1 0), r)))) else some ((-3), ((upd v 1 0), r))) else (f_X7_failed (upd v 1 0) r (f_X4_faultOfTaking (upd v 1 0) r a1.toNatClampNeg a2 a3 (2 * a4))).bind (fun y18 => some (y18.1, (y18.2.1, y18.2.2)))) else none else some ((-2), ((upd v 1 0), r))) else some ((-2), ((upd v 1 0), r))) else some ((-2), ((upd v 1 0), r))) else some ((-1), ((upd v 1 0), r)))
set_option maxHeartbeats 4000000 in
set_option maxRecDepth 100000 in
theorem c_X7_year (l : Launch) (D : va_G) (cy : Nat → ClassId) (A : Nat → Nat) (X : va_W) (A0 : Nat → Prop) (v : Nat → Int32) (r : Nat → Nat → Int32) (a1 : Int32) (a2 : Int32) (a3 : Int32) (a4 : Int32) (a5 : Int32) (res : Int32) (v2 : Nat → Int32) (r2 : Nat → Nat → Int32) (hres : f_X7_year v r a1 a2 a3 a4 a5 = some (res, (v2, r2))) : Met l yX7_year wsX7_year rm_X7_year (va_Pc [.ref (A 0), .int a1, .int a2, .int a3, .int a4, .int a5] (GW D (tyC cy) (pcC cy A v r ++ X) A0)) (QW (some (.int res)) (GW D (tyC cy) (pcC cy A v2 r2 ++ X) A0) A0) 0 0 A0 := by
  refine Met.ofW (cc := cX7_year) (maxL := 9) (ret := (some .int)) (by decide) rfl ?_
  intro p e s m args below meth c s₁ B hml hv
  obtain ⟨hargs, hP, hK, hD0, hN⟩ := hv
  have hx := B.exec
  have hb := B.bytes
  have hr := B.returns
  have hts := atoms_spec (ws := wsX7_year) B.pre
  have hown : s.vm.findClass RX7 = some m.cls := findClass_of_methodNamed B.named
  have hlocks := B.notSynchronized
  have hI : IW D (pcC cy A v r ++ X) A0 s.heap s.heap [] := ⟨hP, hD0, va_S.rf⟩
  have S : CallFix p m c cX7_year 9 s args wsX7_year RX7 := ⟨hx, hb, hml, hown, hts⟩
  have in7 : ∀ w ∈ wsX70, w ∈ wsX7_year := fun _ h => List.mem_cons_of_mem _ (List.mem_append_left _ (List.mem_append_left _ (List.mem_append_left _ (List.mem_append_left _ (List.mem_append_right _ h)))))
  have hl := lv_entry ([.ref (A 0), .int a1, .int a2, .int a3, .int a4, .int a5]) (n := 9) (Nat.le_of_ble_eq_true rfl)
  have hE : entryFrame m args 9 = F0 m 0 ((lg_sl ([.ref (A 0), .int a1, .int a2, .int a3, .int a4, .int a5]) ++ List.replicate (9 - (lg_sl ([.ref (A 0), .int a1, .int a2, .int a3, .int a4, .int a5])).length) Slot.unset).toArray) [] := by rw [hargs]; exact lg_entry_eq m [.ref (A 0), .int a1, .int a2, .int a3, .int a4, .int a5] 9
  rw [hE]
  generalize (lg_sl ([.ref (A 0), .int a1, .int a2, .int a3, .int a4, .int a5]) ++ List.replicate (9 - (lg_sl ([.ref (A 0), .int a1, .int a2, .int a3, .int a4, .int a5])).length) Slot.unset).toArray = ls at hl ⊢
  have hl : lv_has ls 9 [(0, .ref (A 0)), (1, .int a1), (2, .int a2), (3, .int a3), (4, .int a4), (5, .int a5)] := hl
  unfold f_X7_year at hres
  refine lv_aload_n hx hb dX7_year_0 rfl (lv_at hl 0 rfl) ?_
  refine lv_iconst (v := 0) hx hb dX7_year_1 (by decide) ?_
  refine pC_X7_lastFault hx hb hts in7 hown hK hI (hts (.fieldLink RX7 52 "TrickHouse" "lastFault" "I") (by decide +kernel)) dX7_year_2 (fun H locs hI => ?_)
  refine lv_iload_n hx hb dX7_year_5 rfl (lv_at hl 1 rfl) ?_
  refine pu_s S (c_X7_isSheet l a1 _ rfl) (va_cwS 1 hts gX7_year_X7_isSheet rfl rfl rfl (by decide +kernel) ⟨Nat.le_of_ble_eq_true rfl, Nat.le_of_ble_eq_true rfl⟩) hN rfl hl.1 rfl (Nat.le_of_ble_eq_true rfl) dX7_year_6 ⟨Nat.zero_le _, Nat.zero_le _⟩ ?_
  refine lv_if_ne (tgt := 14) hx hb dX7_year_9 (by decide) (fun c2 => ?_) (fun c2 => ?_)
  · replace hres := (if_pos (bI_t c2)).symm.trans hres
    refine lv_iload_n hx hb dX7_year_14 rfl (lv_at hl 2 rfl) ?_
    refine pu_s S (c_X7_isLane l a2 _ rfl) (va_cwS 1 hts gX7_year_X7_isLane rfl rfl rfl (by decide +kernel) ⟨Nat.le_of_ble_eq_true rfl, Nat.le_of_ble_eq_true rfl⟩) hN rfl hl.1 rfl (Nat.le_of_ble_eq_true rfl) dX7_year_15 ⟨Nat.zero_le _, Nat.zero_le _⟩ ?_
    refine lv_if_eq (tgt := 42) hx hb dX7_year_18 (by decide) (fun c4 => ?_) (fun c4 => ?_)
    · replace hres := (if_neg (bI_f c4)).symm.trans hres
      refine lv_bipush (v := (-2)) hx hb dX7_year_42 (by decide) ?_
      obtain ⟨rfl, rfl, rfl⟩ := pr3 hres
      exact W.iret hx hb hr (fun t ht hW => ⟨rfl, ⟨by rw [ht]; exact hI.1, va_K.moved hW.alike hK, hI.2.1, NW.warm hW hN⟩, hI.2.2.F ht⟩) hI.2.2.2.2 dX7_year_44
    · replace hres := (if_pos (bI_t c4)).symm.trans hres
      refine lv_iload hx hb dX7_year_21 (lv_at hl 4 rfl) ?_
      refine lv_iconst (v := 0) hx hb dX7_year_23 (by decide) ?_
      refine lv_bipush (v := 20) hx hb dX7_year_24 (by decide) ?_
      refine pu_s S (c_X7_within l a4 (0 : Int32) (20 : Int32) _ rfl) (va_cwS 3 hts gX7_year_X7_within rfl rfl rfl (by decide +kernel) ⟨Nat.le_of_ble_eq_true rfl, Nat.le_of_ble_eq_true rfl⟩) hN rfl hl.1 rfl (Nat.le_of_ble_eq_true rfl) dX7_year_26 ⟨Nat.zero_le _, Nat.zero_le _⟩ ?_
      refine lv_if_eq (tgt := 42) hx hb dX7_year_29 (by decide) (fun c6 => ?_) (fun c6 => ?_)
      · replace hres := (if_neg (bI_f c6)).symm.trans hres
        refine lv_bipush (v := (-2)) hx hb dX7_year_42 (by decide) ?_
        obtain ⟨rfl, rfl, rfl⟩ := pr3 hres
        exact W.iret hx hb hr (fun t ht hW => ⟨rfl, ⟨by rw [ht]; exact hI.1, va_K.moved hW.alike hK, hI.2.1, NW.warm hW hN⟩, hI.2.2.F ht⟩) hI.2.2.2.2 dX7_year_44
      · replace hres := (if_pos (bI_t c6)).symm.trans hres
        refine lv_iload hx hb dX7_year_32 (lv_at hl 5 rfl) ?_
        refine lv_iconst (v := 0) hx hb dX7_year_34 (by decide) ?_
        refine lv_iconst (v := 5) hx hb dX7_year_35 (by decide) ?_
        refine pu_s S (c_X7_within l a5 (0 : Int32) (5 : Int32) _ rfl) (va_cwS 3 hts gX7_year_X7_within rfl rfl rfl (by decide +kernel) ⟨Nat.le_of_ble_eq_true rfl, Nat.le_of_ble_eq_true rfl⟩) hN rfl hl.1 rfl (Nat.le_of_ble_eq_true rfl) dX7_year_36 ⟨Nat.zero_le _, Nat.zero_le _⟩ ?_
        refine lv_if_ne (tgt := 45) hx hb dX7_year_39 (by decide) (fun c8 => ?_) (fun c8 => ?_)
        · replace hres := (if_pos (bI_t c8)).symm.trans hres
          refine lv_aload_n hx hb dX7_year_45 rfl (lv_at hl 0 rfl) ?_
          refine gC_X7_sheets hx hb hts in7 hown hK hI (hts (.fieldLink RX7 43 "TrickHouse" "sheets" "[LTrickHouse$Sheet;") (by decide +kernel)) dX7_year_46 ?_
          refine lv_iload_n hx hb dX7_year_49 rfl (lv_at hl 1 rfl) ?_
          obtain ⟨g9, hres⟩ := gd hres
          refine th_ald (f := fun k => A (19 + k)) hx hb hK hI 12 2 rfl rfl g9 dX7_year_50 ?_
          refine lv_astore (lv' := [(6, .ref (A (19 + a1.toNatClampNeg))), (0, .ref (A 0)), (1, .int a1), (2, .int a2), (3, .int a3), (4, .int a4), (5, .int a5)]) hx hb dX7_year_51 hl (by decide) rfl (fun ls hl => ?_)
          refine lv_aload hx hb dX7_year_53 (lv_at hl 0 rfl) ?_
          refine lv_iload_n hx hb dX7_year_55 rfl (lv_at hl 3 rfl) ?_
          refine lv_iload_n hx hb dX7_year_56 rfl (lv_at hl 4 rfl) ?_
          refine lv_iconst (v := 2) hx hb dX7_year_57 (by decide) ?_
          refine lv_iload hx hb dX7_year_58 (lv_at hl 5 rfl) ?_
          refine lv_imul hx hb dX7_year_60 ?_
          refine ro_v S (c_X4_faultOfTaking l D cy A X A0 (upd v 1 0) r a1.toNatClampNeg (inR_lt g9) a2 a3 (2 * a4) _ rfl) (cwV 3 hts gX7_year_X4_faultOfTaking rfl rfl rfl (by decide +kernel) ⟨Nat.le_of_ble_eq_true rfl, Nat.le_of_ble_eq_true rfl⟩) hI hK hN (ci := 4) rfl (atC_sh (inR_lt g9)) rfl rfl hl.1 rfl (Nat.le_of_ble_eq_true rfl) dX7_year_61 ⟨Nat.zero_le _, Nat.zero_le _⟩ ?_
          refine lv_istore (lv' := [(7, .int (f_X4_faultOfTaking (upd v 1 0) r a1.toNatClampNeg a2 a3 (2 * a4))), (6, .ref (A (19 + a1.toNatClampNeg))), (0, .ref (A 0)), (1, .int a1), (2, .int a2), (3, .int a3), (4, .int a4), (5, .int a5)]) hx hb dX7_year_64 hl (by decide) rfl (fun ls hl => ?_)
          refine lv_iload hx hb dX7_year_66 (lv_at hl 0 rfl) ?_
          refine lv_if_eq (tgt := 78) hx hb dX7_year_68 (by decide) (fun c11 => ?_) (fun c11 => ?_)
          · replace hres := (if_pos c11).symm.trans hres
            refine lv_aload_n hx hb dX7_year_78 rfl (lv_at hl 2 rfl) ?_
            refine gC_X7_house hx hb hts in7 hown hK hI (hts (.fieldLink RX7 12 "TrickHouse" "house" "LTrickHouse$House;") (by decide +kernel)) dX7_year_79 ?_
            refine ro_v S (c_X1_stands l D cy A X A0 (upd v 1 0) r _ rfl) (cwV 0 hts gX7_year_X1_stands rfl rfl rfl (by decide +kernel) ⟨Nat.le_of_ble_eq_true rfl, Nat.le_of_ble_eq_true rfl⟩) hI hK hN (ci := 1) rfl (atC_1) rfl rfl hl.1 rfl (Nat.le_of_ble_eq_true rfl) dX7_year_82 ⟨Nat.zero_le _, Nat.zero_le _⟩ ?_
            refine lv_if_ne (tgt := 91) hx hb dX7_year_85 (by decide) (fun c13 => ?_) (fun c13 => ?_)
            · replace hres := (if_pos (bI_t c13)).symm.trans hres
              refine lv_aload_n hx hb dX7_year_91 rfl (lv_at hl 2 rfl) ?_
              refine gC_X7_toldYear hx hb hts in7 hown hK hI (hts (.fieldLink RX7 37 "TrickHouse" "toldYear" "LTrickHouse$Year;") (by decide +kernel)) dX7_year_92 ?_
              refine lv_aload hx hb dX7_year_95 (lv_at hl 1 rfl) ?_
              refine lv_iload_n hx hb dX7_year_97 rfl (lv_at hl 5 rfl) ?_
              refine lv_iload hx hb dX7_year_98 (lv_at hl 6 rfl) ?_
              obtain ⟨y14, e14, hres⟩ := bd hres
              refine ro_v S (c_X6_refusalOf l D cy A X A0 (upd v 1 0) r a1.toNatClampNeg (inR_lt g9) a3 a4 y14 e14) (cwV 3 hts gX7_year_X6_refusalOf rfl rfl rfl (by decide +kernel) ⟨Nat.le_of_ble_eq_true rfl, Nat.le_of_ble_eq_true rfl⟩) hI hK hN (ci := 5) rfl (atC_11) rfl rfl hl.1 rfl (Nat.le_of_ble_eq_true rfl) dX7_year_100 ⟨Nat.zero_le _, Nat.zero_le _⟩ ?_
              refine lv_istore (lv' := [(8, .int y14), (7, .int (f_X4_faultOfTaking (upd v 1 0) r a1.toNatClampNeg a2 a3 (2 * a4))), (6, .ref (A (19 + a1.toNatClampNeg))), (0, .ref (A 0)), (1, .int a1), (2, .int a2), (3, .int a3), (4, .int a4), (5, .int a5)]) hx hb dX7_year_103 hl (by decide) rfl (fun ls hl => ?_)
              refine lv_iload hx hb dX7_year_105 (lv_at hl 0 rfl) ?_
              refine lv_if_eq (tgt := 113) hx hb dX7_year_107 (by decide) (fun c15 => ?_) (fun c15 => ?_)
              · replace hres := (if_pos c15).symm.trans hres
                refine lv_aload_n hx hb dX7_year_113 rfl (lv_at hl 3 rfl) ?_
                refine gC_X7_toldYear hx hb hts in7 hown hK hI (hts (.fieldLink RX7 37 "TrickHouse" "toldYear" "LTrickHouse$Year;") (by decide +kernel)) dX7_year_114 ?_
                refine lv_aload hx hb dX7_year_117 (lv_at hl 2 rfl) ?_
                refine lv_iload_n hx hb dX7_year_119 rfl (lv_at hl 6 rfl) ?_
                refine lv_iload hx hb dX7_year_120 (lv_at hl 7 rfl) ?_
                obtain ⟨y16, e16, hres⟩ := bd hres
                refine rw_v S (c_X6_run l D cy A X A0 (upd v 1 0) r a1.toNatClampNeg (inR_lt g9) a3 a4 y16.1 y16.2 e16) (cwV 3 hts gX7_year_X6_run rfl rfl rfl (by decide +kernel) ⟨Nat.le_of_ble_eq_true rfl, Nat.le_of_ble_eq_true rfl⟩) hI hK hN (ci := 5) rfl (atC_11) rfl rfl hl.1 rfl (Nat.le_of_ble_eq_true rfl) dX7_year_122 ⟨Nat.zero_le _, Nat.zero_le _⟩ (fun H locs hI => ?_)
                refine lv_aload_n hx hb dX7_year_125 rfl (lv_at hl 3 rfl) ?_
                refine gC_X7_toldYear hx hb hts in7 hown hK hI (hts (.fieldLink RX7 37 "TrickHouse" "toldYear" "LTrickHouse$Year;") (by decide +kernel)) dX7_year_126 ?_
                refine lv_iload hx hb dX7_year_129 (lv_at hl 8 rfl) ?_
                obtain ⟨y17, e17, hres⟩ := bd hres
                refine ro_v S (c_X6_answer l D cy A X A0 y16.1 y16.2 a5 y17 e17) (cwV 1 hts gX7_year_X6_answer rfl rfl rfl (by decide +kernel) ⟨Nat.le_of_ble_eq_true rfl, Nat.le_of_ble_eq_true rfl⟩) hI hK hN (ci := 5) rfl (atC_11) rfl rfl hl.1 rfl (Nat.le_of_ble_eq_true rfl) dX7_year_131 ⟨Nat.zero_le _, Nat.zero_le _⟩ ?_
                obtain ⟨rfl, rfl, rfl⟩ := pr3 hres
                exact W.iret hx hb hr (fun t ht hW => ⟨rfl, ⟨by rw [ht]; exact hI.1, va_K.moved hW.alike hK, hI.2.1, NW.warm hW hN⟩, hI.2.2.F ht⟩) hI.2.2.2.2 dX7_year_134
              · replace hres := (if_neg c15).symm.trans hres
                refine lv_iload hx hb dX7_year_110 (lv_at hl 0 rfl) ?_
                obtain ⟨rfl, rfl, rfl⟩ := pr3 hres
                exact W.iret hx hb hr (fun t ht hW => ⟨rfl, ⟨by rw [ht]; exact hI.1, va_K.moved hW.alike hK, hI.2.1, NW.warm hW hN⟩, hI.2.2.F ht⟩) hI.2.2.2.2 dX7_year_112
            · replace hres := (if_neg (bI_f c13)).symm.trans hres
              refine lv_bipush (v := (-3)) hx hb dX7_year_88 (by decide) ?_
              obtain ⟨rfl, rfl, rfl⟩ := pr3 hres
              exact W.iret hx hb hr (fun t ht hW => ⟨rfl, ⟨by rw [ht]; exact hI.1, va_K.moved hW.alike hK, hI.2.1, NW.warm hW hN⟩, hI.2.2.F ht⟩) hI.2.2.2.2 dX7_year_90
          · replace hres := (if_neg c11).symm.trans hres
            refine lv_aload_n hx hb dX7_year_71 rfl (lv_at hl 2 rfl) ?_
            refine lv_iload hx hb dX7_year_72 (lv_at hl 0 rfl) ?_
            obtain ⟨y18, e18, hres⟩ := bd hres
            refine rw_v S (c_X7_failed l D cy A X A0 (upd v 1 0) r (f_X4_faultOfTaking (upd v 1 0) r a1.toNatClampNeg a2 a3 (2 * a4)) y18.1 y18.2.1 y18.2.2 e18) (cwV 1 hts gX7_year_X7_failed rfl rfl rfl (by decide +kernel) ⟨Nat.le_of_ble_eq_true rfl, Nat.le_of_ble_eq_true rfl⟩) hI hK hN (ci := 6) rfl (atC_0) rfl rfl hl.1 rfl (Nat.le_of_ble_eq_true rfl) dX7_year_74 ⟨Nat.zero_le _, Nat.zero_le _⟩ (fun H locs hI => ?_)
            obtain ⟨rfl, rfl, rfl⟩ := pr3 hres
            exact W.iret hx hb hr (fun t ht hW => ⟨rfl, ⟨by rw [ht]; exact hI.1, va_K.moved hW.alike hK, hI.2.1, NW.warm hW hN⟩, hI.2.2.F ht⟩) hI.2.2.2.2 dX7_year_77
        · replace hres := (if_neg (bI_f c8)).symm.trans hres
          refine lv_bipush (v := (-2)) hx hb dX7_year_42 (by decide) ?_
          obtain ⟨rfl, rfl, rfl⟩ := pr3 hres
          exact W.iret hx hb hr (fun t ht hW => ⟨rfl, ⟨by rw [ht]; exact hI.1, va_K.moved hW.alike hK, hI.2.1, NW.warm hW hN⟩, hI.2.2.F ht⟩) hI.2.2.2.2 dX7_year_44
  · replace hres := (if_neg (bI_f c2)).symm.trans hres
    refine lv_iconst (v := (-1)) hx hb dX7_year_12 (by decide) ?_
    obtain ⟨rfl, rfl, rfl⟩ := pr3 hres
    exact W.iret hx hb hr (fun t ht hW => ⟨rfl, ⟨by rw [ht]; exact hI.1, va_K.moved hW.alike hK, hI.2.1, NW.warm hW hN⟩, hI.2.2.F ht⟩) hI.2.2.2.2 dX7_year_13
abbrev rm_X7_packs : Room := { frames := 12, cells := 0, slots := 0, locals := 298 }
def f_X7_packs (v : Nat → Int32) (r : Nat → Nat → Int32) (a1 : Int32) (a2 : Int32) : Option (Int32 × ST) := (if (f_X1_stands v r) = true then (if (f_X1_isSet v r a1) = true then (if (f_X7_within a2 ((-1) : Int32) (5 : Int32)) = true then (f_X2_pack v r a1).bind (fun y7 => (if 0 ≤ a2 then if inR a2 6 = true then some ((y7.2 9 a2.toNatClampNeg), (y7.1, y7.2)) else none else some ((y7.1 7), (y7.1, y7.2)))) else some ((-2), (v, r))) else some ((-2), (v, r))) else some ((-3), (v, r)))
set_option maxHeartbeats 4000000 in
set_option maxRecDepth 100000 in
theorem c_X7_packs (l : Launch) (D : va_G) (cy : Nat → ClassId) (A : Nat → Nat) (X : va_W) (A0 : Nat → Prop) (v : Nat → Int32) (r : Nat → Nat → Int32) (a1 : Int32) (a2 : Int32) (res : Int32) (v2 : Nat → Int32) (r2 : Nat → Nat → Int32) (hres : f_X7_packs v r a1 a2 = some (res, (v2, r2))) : Met l yX7_packs wsX7_packs rm_X7_packs (va_Pc [.ref (A 0), .int a1, .int a2] (GW D (tyC cy) (pcC cy A v r ++ X) A0)) (QW (some (.int res)) (GW D (tyC cy) (pcC cy A v2 r2 ++ X) A0) A0) 0 0 A0 := by
  refine Met.ofW (cc := cX7_packs) (maxL := 3) (ret := (some .int)) (by decide) rfl ?_
  intro p e s m args below meth c s₁ B hml hv
  obtain ⟨hargs, hP, hK, hD0, hN⟩ := hv
  have hx := B.exec
  have hb := B.bytes
  have hr := B.returns
  have hts := atoms_spec (ws := wsX7_packs) B.pre
  have hown : s.vm.findClass RX7 = some m.cls := findClass_of_methodNamed B.named
  have hlocks := B.notSynchronized
  have hI : IW D (pcC cy A v r ++ X) A0 s.heap s.heap [] := ⟨hP, hD0, va_S.rf⟩
  have S : CallFix p m c cX7_packs 3 s args wsX7_packs RX7 := ⟨hx, hb, hml, hown, hts⟩
  have in2 : ∀ w ∈ wsX20, w ∈ wsX7_packs := fun _ h => List.mem_cons_of_mem _ (List.mem_append_left _ (List.mem_append_left _ (List.mem_append_right _ h)))
  have in7 : ∀ w ∈ wsX70, w ∈ wsX7_packs := fun _ h => List.mem_cons_of_mem _ (List.mem_append_left _ (List.mem_append_left _ (List.mem_append_left _ (List.mem_append_right _ h))))
  have hl := lv_entry ([.ref (A 0), .int a1, .int a2]) (n := 3) (Nat.le_of_ble_eq_true rfl)
  have hE : entryFrame m args 3 = F0 m 0 ((lg_sl ([.ref (A 0), .int a1, .int a2]) ++ List.replicate (3 - (lg_sl ([.ref (A 0), .int a1, .int a2])).length) Slot.unset).toArray) [] := by rw [hargs]; exact lg_entry_eq m [.ref (A 0), .int a1, .int a2] 3
  rw [hE]
  generalize (lg_sl ([.ref (A 0), .int a1, .int a2]) ++ List.replicate (3 - (lg_sl ([.ref (A 0), .int a1, .int a2])).length) Slot.unset).toArray = ls at hl ⊢
  have hl : lv_has ls 3 [(0, .ref (A 0)), (1, .int a1), (2, .int a2)] := hl
  unfold f_X7_packs at hres
  refine lv_aload_n hx hb dX7_packs_0 rfl (lv_at hl 0 rfl) ?_
  refine gC_X7_house hx hb hts in7 hown hK hI (hts (.fieldLink RX7 12 "TrickHouse" "house" "LTrickHouse$House;") (by decide +kernel)) dX7_packs_1 ?_
  refine ro_v S (c_X1_stands l D cy A X A0 v r _ rfl) (cwV 0 hts gX7_packs_X1_stands rfl rfl rfl (by decide +kernel) ⟨Nat.le_of_ble_eq_true rfl, Nat.le_of_ble_eq_true rfl⟩) hI hK hN (ci := 1) rfl (atC_1) rfl rfl hl.1 rfl (Nat.le_of_ble_eq_true rfl) dX7_packs_4 ⟨Nat.zero_le _, Nat.zero_le _⟩ ?_
  refine lv_if_ne (tgt := 13) hx hb dX7_packs_7 (by decide) (fun c2 => ?_) (fun c2 => ?_)
  · replace hres := (if_pos (bI_t c2)).symm.trans hres
    refine lv_aload_n hx hb dX7_packs_13 rfl (lv_at hl 0 rfl) ?_
    refine gC_X7_house hx hb hts in7 hown hK hI (hts (.fieldLink RX7 12 "TrickHouse" "house" "LTrickHouse$House;") (by decide +kernel)) dX7_packs_14 ?_
    refine lv_iload_n hx hb dX7_packs_17 rfl (lv_at hl 1 rfl) ?_
    refine ro_v S (c_X1_isSet l D cy A X A0 v r a1 _ rfl) (cwV 1 hts gX7_packs_X1_isSet rfl rfl rfl (by decide +kernel) ⟨Nat.le_of_ble_eq_true rfl, Nat.le_of_ble_eq_true rfl⟩) hI hK hN (ci := 1) rfl (atC_1) rfl rfl hl.1 rfl (Nat.le_of_ble_eq_true rfl) dX7_packs_18 ⟨Nat.zero_le _, Nat.zero_le _⟩ ?_
    refine lv_if_eq (tgt := 33) hx hb dX7_packs_21 (by decide) (fun c4 => ?_) (fun c4 => ?_)
    · replace hres := (if_neg (bI_f c4)).symm.trans hres
      refine lv_bipush (v := (-2)) hx hb dX7_packs_33 (by decide) ?_
      obtain ⟨rfl, rfl, rfl⟩ := pr3 hres
      exact W.iret hx hb hr (fun t ht hW => ⟨rfl, ⟨by rw [ht]; exact hI.1, va_K.moved hW.alike hK, hI.2.1, NW.warm hW hN⟩, hI.2.2.F ht⟩) hI.2.2.2.2 dX7_packs_35
    · replace hres := (if_pos (bI_t c4)).symm.trans hres
      refine lv_iload_n hx hb dX7_packs_24 rfl (lv_at hl 2 rfl) ?_
      refine lv_iconst (v := (-1)) hx hb dX7_packs_25 (by decide) ?_
      refine lv_iconst (v := 5) hx hb dX7_packs_26 (by decide) ?_
      refine pu_s S (c_X7_within l a2 ((-1) : Int32) (5 : Int32) _ rfl) (va_cwS 3 hts gX7_packs_X7_within rfl rfl rfl (by decide +kernel) ⟨Nat.le_of_ble_eq_true rfl, Nat.le_of_ble_eq_true rfl⟩) hN rfl hl.1 rfl (Nat.le_of_ble_eq_true rfl) dX7_packs_27 ⟨Nat.zero_le _, Nat.zero_le _⟩ ?_
      refine lv_if_ne (tgt := 36) hx hb dX7_packs_30 (by decide) (fun c6 => ?_) (fun c6 => ?_)
      · replace hres := (if_pos (bI_t c6)).symm.trans hres
        refine lv_aload_n hx hb dX7_packs_36 rfl (lv_at hl 0 rfl) ?_
        refine gC_X7_packing hx hb hts in7 hown hK hI (hts (.fieldLink RX7 30 "TrickHouse" "packing" "LTrickHouse$Packing;") (by decide +kernel)) dX7_packs_37 ?_
        refine lv_iload_n hx hb dX7_packs_40 rfl (lv_at hl 1 rfl) ?_
        obtain ⟨y7, e7, hres⟩ := bd hres
        refine rw_v S (c_X2_pack l D cy A X A0 v r a1 y7.1 y7.2 e7) (cwV 1 hts gX7_packs_X2_pack rfl rfl rfl (by decide +kernel) ⟨Nat.le_of_ble_eq_true rfl, Nat.le_of_ble_eq_true rfl⟩) hI hK hN (ci := 2) rfl (atC_7) rfl rfl hl.1 rfl (Nat.le_of_ble_eq_true rfl) dX7_packs_41 ⟨Nat.zero_le _, Nat.zero_le _⟩ (fun H locs hI => ?_)
        refine lv_iload_n hx hb dX7_packs_44 rfl (lv_at hl 2 rfl) ?_
        refine lv_if_ge (tgt := 58) hx hb dX7_packs_45 (by decide) (fun c8 => ?_) (fun c8 => ?_)
        · replace hres := (if_pos c8).symm.trans hres
          refine lv_aload_n hx hb dX7_packs_58 rfl (lv_at hl 0 rfl) ?_
          refine gC_X7_packing hx hb hts in7 hown hK hI (hts (.fieldLink RX7 30 "TrickHouse" "packing" "LTrickHouse$Packing;") (by decide +kernel)) dX7_packs_59 ?_
          refine gC_X2_first hx hb hts in2 hown hK hI (hts (.fieldLink RX7 171 "TrickHouse$Packing" "first" "[I") (by decide +kernel)) dX7_packs_62 ?_
          refine lv_iload_n hx hb dX7_packs_65 rfl (lv_at hl 2 rfl) ?_
          obtain ⟨g9, hres⟩ := gd hres
          refine th_ild hx hb hK hI 10 0 rfl rfl g9 dX7_packs_66 ?_
          obtain ⟨rfl, rfl, rfl⟩ := pr3 hres
          exact W.iret hx hb hr (fun t ht hW => ⟨rfl, ⟨by rw [ht]; exact hI.1, va_K.moved hW.alike hK, hI.2.1, NW.warm hW hN⟩, hI.2.2.F ht⟩) hI.2.2.2.2 dX7_packs_67
        · replace hres := (if_neg c8).symm.trans hres
          refine lv_aload_n hx hb dX7_packs_48 rfl (lv_at hl 0 rfl) ?_
          refine gC_X7_packing hx hb hts in7 hown hK hI (hts (.fieldLink RX7 30 "TrickHouse" "packing" "LTrickHouse$Packing;") (by decide +kernel)) dX7_packs_49 ?_
          refine gC_X2_ways hx hb hts in2 hown hK hI (hts (.fieldLink RX7 168 "TrickHouse$Packing" "ways" "I") (by decide +kernel)) dX7_packs_52 ?_
          refine lv_goto (tgt := 67) hx hb dX7_packs_55 (by decide) ?_
          obtain ⟨rfl, rfl, rfl⟩ := pr3 hres
          exact W.iret hx hb hr (fun t ht hW => ⟨rfl, ⟨by rw [ht]; exact hI.1, va_K.moved hW.alike hK, hI.2.1, NW.warm hW hN⟩, hI.2.2.F ht⟩) hI.2.2.2.2 dX7_packs_67
      · replace hres := (if_neg (bI_f c6)).symm.trans hres
        refine lv_bipush (v := (-2)) hx hb dX7_packs_33 (by decide) ?_
        obtain ⟨rfl, rfl, rfl⟩ := pr3 hres
        exact W.iret hx hb hr (fun t ht hW => ⟨rfl, ⟨by rw [ht]; exact hI.1, va_K.moved hW.alike hK, hI.2.1, NW.warm hW hN⟩, hI.2.2.F ht⟩) hI.2.2.2.2 dX7_packs_35
  · replace hres := (if_neg (bI_f c2)).symm.trans hres
    refine lv_bipush (v := (-3)) hx hb dX7_packs_10 (by decide) ?_
    obtain ⟨rfl, rfl, rfl⟩ := pr3 hres
    exact W.iret hx hb hr (fun t ht hW => ⟨rfl, ⟨by rw [ht]; exact hI.1, va_K.moved hW.alike hK, hI.2.1, NW.warm hW hN⟩, hI.2.2.F ht⟩) hI.2.2.2.2 dX7_packs_12
abbrev rm_X7_fetch : Room := { frames := 6, cells := 0, slots := 0, locals := 138 }
def f_X7_fetch (v : Nat → Int32) (r : Nat → Nat → Int32) (a1 : Int32) : Option Int32 := (if (f_X1_stands v r) = true then (if (f_X1_isSet v r a1) = true then (if (a1 &&& ((v 5) ^^^ (-1))) = 0 then (f_X1_fewestCalls v r a1 (v 5)).bind (fun y6 => some (y6)) else some ((-3))) else some ((-2))) else some ((-3)))
set_option maxHeartbeats 4000000 in
set_option maxRecDepth 100000 in
theorem c_X7_fetch (l : Launch) (D : va_G) (cy : Nat → ClassId) (A : Nat → Nat) (X : va_W) (A0 : Nat → Prop) (v : Nat → Int32) (r : Nat → Nat → Int32) (a1 : Int32) (res : Int32) (hres : f_X7_fetch v r a1 = some res) : Met l yX7_fetch wsX7_fetch rm_X7_fetch (va_Pc [.ref (A 0), .int a1] (GW D (tyC cy) (pcC cy A v r ++ X) A0)) (QR (.int res)) 0 0 (fun _ => False) := by
  refine Met.ofW (cc := cX7_fetch) (maxL := 2) (ret := (some .int)) (by decide) rfl ?_
  intro p e s m args below meth c s₁ B hml hv
  obtain ⟨hargs, hP, hK, hD0, hN⟩ := hv
  have hx := B.exec
  have hb := B.bytes
  have hr := B.returns
  have hts := atoms_spec (ws := wsX7_fetch) B.pre
  have hown : s.vm.findClass RX7 = some m.cls := findClass_of_methodNamed B.named
  have hlocks := B.notSynchronized
  have hI : IW D (pcC cy A v r ++ X) A0 s.heap s.heap [] := ⟨hP, hD0, va_S.rf⟩
  have S : CallFix p m c cX7_fetch 2 s args wsX7_fetch RX7 := ⟨hx, hb, hml, hown, hts⟩
  have in1 : ∀ w ∈ wsX10, w ∈ wsX7_fetch := fun _ h => List.mem_cons_of_mem _ (List.mem_append_left _ (List.mem_append_right _ h))
  have in7 : ∀ w ∈ wsX70, w ∈ wsX7_fetch := fun _ h => List.mem_cons_of_mem _ (List.mem_append_left _ (List.mem_append_left _ (List.mem_append_right _ h)))
  have hl := lv_entry ([.ref (A 0), .int a1]) (n := 2) (Nat.le_of_ble_eq_true rfl)
  have hE : entryFrame m args 2 = F0 m 0 ((lg_sl ([.ref (A 0), .int a1]) ++ List.replicate (2 - (lg_sl ([.ref (A 0), .int a1])).length) Slot.unset).toArray) [] := by rw [hargs]; exact lg_entry_eq m [.ref (A 0), .int a1] 2
  rw [hE]
  generalize (lg_sl ([.ref (A 0), .int a1]) ++ List.replicate (2 - (lg_sl ([.ref (A 0), .int a1])).length) Slot.unset).toArray = ls at hl ⊢
  have hl : lv_has ls 2 [(0, .ref (A 0)), (1, .int a1)] := hl
  unfold f_X7_fetch at hres
  refine lv_aload_n hx hb dX7_fetch_0 rfl (lv_at hl 0 rfl) ?_
  refine gC_X7_house hx hb hts in7 hown hK hI (hts (.fieldLink RX7 12 "TrickHouse" "house" "LTrickHouse$House;") (by decide +kernel)) dX7_fetch_1 ?_
  refine ro_v S (c_X1_stands l D cy A X A0 v r _ rfl) (cwV 0 hts gX7_fetch_X1_stands rfl rfl rfl (by decide +kernel) ⟨Nat.le_of_ble_eq_true rfl, Nat.le_of_ble_eq_true rfl⟩) hI hK hN (ci := 1) rfl (atC_1) rfl rfl hl.1 rfl (Nat.le_of_ble_eq_true rfl) dX7_fetch_4 ⟨Nat.zero_le _, Nat.zero_le _⟩ ?_
  refine lv_if_ne (tgt := 13) hx hb dX7_fetch_7 (by decide) (fun c2 => ?_) (fun c2 => ?_)
  · replace hres := (if_pos (bI_t c2)).symm.trans hres
    refine lv_aload_n hx hb dX7_fetch_13 rfl (lv_at hl 0 rfl) ?_
    refine gC_X7_house hx hb hts in7 hown hK hI (hts (.fieldLink RX7 12 "TrickHouse" "house" "LTrickHouse$House;") (by decide +kernel)) dX7_fetch_14 ?_
    refine lv_iload_n hx hb dX7_fetch_17 rfl (lv_at hl 1 rfl) ?_
    refine ro_v S (c_X1_isSet l D cy A X A0 v r a1 _ rfl) (cwV 1 hts gX7_fetch_X1_isSet rfl rfl rfl (by decide +kernel) ⟨Nat.le_of_ble_eq_true rfl, Nat.le_of_ble_eq_true rfl⟩) hI hK hN (ci := 1) rfl (atC_1) rfl rfl hl.1 rfl (Nat.le_of_ble_eq_true rfl) dX7_fetch_18 ⟨Nat.zero_le _, Nat.zero_le _⟩ ?_
    refine lv_if_ne (tgt := 27) hx hb dX7_fetch_21 (by decide) (fun c4 => ?_) (fun c4 => ?_)
    · replace hres := (if_pos (bI_t c4)).symm.trans hres
      refine lv_iload_n hx hb dX7_fetch_27 rfl (lv_at hl 1 rfl) ?_
      refine lv_aload_n hx hb dX7_fetch_28 rfl (lv_at hl 0 rfl) ?_
      refine gC_X7_house hx hb hts in7 hown hK hI (hts (.fieldLink RX7 12 "TrickHouse" "house" "LTrickHouse$House;") (by decide +kernel)) dX7_fetch_29 ?_
      refine gC_X1_present hx hb hts in1 hown hK hI (hts (.fieldLink RX7 111 "TrickHouse$House" "present" "I") (by decide +kernel)) dX7_fetch_32 ?_
      refine lv_iconst (v := (-1)) hx hb dX7_fetch_35 (by decide) ?_
      refine lv_ixor hx hb dX7_fetch_36 ?_
      refine lv_iand hx hb dX7_fetch_37 ?_
      refine lv_if_eq (tgt := 44) hx hb dX7_fetch_38 (by decide) (fun c5 => ?_) (fun c5 => ?_)
      · replace hres := (if_pos c5).symm.trans hres
        refine lv_aload_n hx hb dX7_fetch_44 rfl (lv_at hl 0 rfl) ?_
        refine gC_X7_house hx hb hts in7 hown hK hI (hts (.fieldLink RX7 12 "TrickHouse" "house" "LTrickHouse$House;") (by decide +kernel)) dX7_fetch_45 ?_
        refine lv_iload_n hx hb dX7_fetch_48 rfl (lv_at hl 1 rfl) ?_
        refine lv_aload_n hx hb dX7_fetch_49 rfl (lv_at hl 0 rfl) ?_
        refine gC_X7_house hx hb hts in7 hown hK hI (hts (.fieldLink RX7 12 "TrickHouse" "house" "LTrickHouse$House;") (by decide +kernel)) dX7_fetch_50 ?_
        refine gC_X1_present hx hb hts in1 hown hK hI (hts (.fieldLink RX7 111 "TrickHouse$House" "present" "I") (by decide +kernel)) dX7_fetch_53 ?_
        obtain ⟨y6, e6, hres⟩ := bd hres
        refine ro_v S (c_X1_fewestCalls l D cy A X A0 v r a1 (v 5) y6 e6) (cwV 2 hts gX7_fetch_X1_fewestCalls rfl rfl rfl (by decide +kernel) ⟨Nat.le_of_ble_eq_true rfl, Nat.le_of_ble_eq_true rfl⟩) hI hK hN (ci := 1) rfl (atC_1) rfl rfl hl.1 rfl (Nat.le_of_ble_eq_true rfl) dX7_fetch_56 ⟨Nat.zero_le _, Nat.zero_le _⟩ ?_
        obtain rfl := Option.some.inj hres
        exact W.iret hx hb hr (fun t ht hW => ⟨rfl, ht⟩) (fun _ h => absurd h List.not_mem_nil) dX7_fetch_59
      · replace hres := (if_neg c5).symm.trans hres
        refine lv_bipush (v := (-3)) hx hb dX7_fetch_41 (by decide) ?_
        obtain rfl := Option.some.inj hres
        exact W.iret hx hb hr (fun t ht hW => ⟨rfl, ht⟩) (fun _ h => absurd h List.not_mem_nil) dX7_fetch_43
    · replace hres := (if_neg (bI_f c4)).symm.trans hres
      refine lv_bipush (v := (-2)) hx hb dX7_fetch_24 (by decide) ?_
      obtain rfl := Option.some.inj hres
      exact W.iret hx hb hr (fun t ht hW => ⟨rfl, ht⟩) (fun _ h => absurd h List.not_mem_nil) dX7_fetch_26
  · replace hres := (if_neg (bI_f c2)).symm.trans hres
    refine lv_bipush (v := (-3)) hx hb dX7_fetch_10 (by decide) ?_
    obtain rfl := Option.some.inj hres
    exact W.iret hx hb hr (fun t ht hW => ⟨rfl, ht⟩) (fun _ h => absurd h List.not_mem_nil) dX7_fetch_12
abbrev rm_X7_lure : Room := { frames := 6, cells := 0, slots := 0, locals := 138 }
def f_X7_lure (v : Nat → Int32) (r : Nat → Nat → Int32) (a1 : Int32) : Option Int32 := (if (f_X1_isArticle v r a1) = true then (if (f_X7_has (v 5) a1) = true then (f_X1_fewestCalls v r ((1 : Int32) <<< (a1 &&& 31)) ((v 5) &&& (((1 : Int32) <<< (a1 &&& 31)) ^^^ (-1)))).bind (fun y5 => some (y5)) else some ((-3))) else some ((-1)))
set_option maxHeartbeats 4000000 in
set_option maxRecDepth 100000 in
theorem c_X7_lure (l : Launch) (D : va_G) (cy : Nat → ClassId) (A : Nat → Nat) (X : va_W) (A0 : Nat → Prop) (v : Nat → Int32) (r : Nat → Nat → Int32) (a1 : Int32) (res : Int32) (hres : f_X7_lure v r a1 = some res) : Met l yX7_lure wsX7_lure rm_X7_lure (va_Pc [.ref (A 0), .int a1] (GW D (tyC cy) (pcC cy A v r ++ X) A0)) (QR (.int res)) 0 0 (fun _ => False) := by
  refine Met.ofW (cc := cX7_lure) (maxL := 2) (ret := (some .int)) (by decide) rfl ?_
  intro p e s m args below meth c s₁ B hml hv
  obtain ⟨hargs, hP, hK, hD0, hN⟩ := hv
  have hx := B.exec
  have hb := B.bytes
  have hr := B.returns
  have hts := atoms_spec (ws := wsX7_lure) B.pre
  have hown : s.vm.findClass RX7 = some m.cls := findClass_of_methodNamed B.named
  have hlocks := B.notSynchronized
  have hI : IW D (pcC cy A v r ++ X) A0 s.heap s.heap [] := ⟨hP, hD0, va_S.rf⟩
  have S : CallFix p m c cX7_lure 2 s args wsX7_lure RX7 := ⟨hx, hb, hml, hown, hts⟩
  have in1 : ∀ w ∈ wsX10, w ∈ wsX7_lure := fun _ h => List.mem_cons_of_mem _ (List.mem_append_left _ (List.mem_append_right _ h))
  have in7 : ∀ w ∈ wsX70, w ∈ wsX7_lure := fun _ h => List.mem_cons_of_mem _ (List.mem_append_left _ (List.mem_append_left _ (List.mem_append_right _ h)))
  have hl := lv_entry ([.ref (A 0), .int a1]) (n := 2) (Nat.le_of_ble_eq_true rfl)
  have hE : entryFrame m args 2 = F0 m 0 ((lg_sl ([.ref (A 0), .int a1]) ++ List.replicate (2 - (lg_sl ([.ref (A 0), .int a1])).length) Slot.unset).toArray) [] := by rw [hargs]; exact lg_entry_eq m [.ref (A 0), .int a1] 2
  rw [hE]
  generalize (lg_sl ([.ref (A 0), .int a1]) ++ List.replicate (2 - (lg_sl ([.ref (A 0), .int a1])).length) Slot.unset).toArray = ls at hl ⊢
  have hl : lv_has ls 2 [(0, .ref (A 0)), (1, .int a1)] := hl
  unfold f_X7_lure at hres
  refine lv_aload_n hx hb dX7_lure_0 rfl (lv_at hl 0 rfl) ?_
  refine gC_X7_house hx hb hts in7 hown hK hI (hts (.fieldLink RX7 12 "TrickHouse" "house" "LTrickHouse$House;") (by decide +kernel)) dX7_lure_1 ?_
  refine lv_iload_n hx hb dX7_lure_4 rfl (lv_at hl 1 rfl) ?_
  refine ro_v S (c_X1_isArticle l D cy A X A0 v r a1 _ rfl) (cwV 1 hts gX7_lure_X1_isArticle rfl rfl rfl (by decide +kernel) ⟨Nat.le_of_ble_eq_true rfl, Nat.le_of_ble_eq_true rfl⟩) hI hK hN (ci := 1) rfl (atC_1) rfl rfl hl.1 rfl (Nat.le_of_ble_eq_true rfl) dX7_lure_5 ⟨Nat.zero_le _, Nat.zero_le _⟩ ?_
  refine lv_if_ne (tgt := 13) hx hb dX7_lure_8 (by decide) (fun c2 => ?_) (fun c2 => ?_)
  · replace hres := (if_pos (bI_t c2)).symm.trans hres
    refine lv_aload_n hx hb dX7_lure_13 rfl (lv_at hl 0 rfl) ?_
    refine gC_X7_house hx hb hts in7 hown hK hI (hts (.fieldLink RX7 12 "TrickHouse" "house" "LTrickHouse$House;") (by decide +kernel)) dX7_lure_14 ?_
    refine gC_X1_present hx hb hts in1 hown hK hI (hts (.fieldLink RX7 111 "TrickHouse$House" "present" "I") (by decide +kernel)) dX7_lure_17 ?_
    refine lv_iload_n hx hb dX7_lure_20 rfl (lv_at hl 1 rfl) ?_
    refine pu_s S (c_X7_has l (v 5) a1 _ rfl) (va_cwS 2 hts gX7_lure_X7_has rfl rfl rfl (by decide +kernel) ⟨Nat.le_of_ble_eq_true rfl, Nat.le_of_ble_eq_true rfl⟩) hN rfl hl.1 rfl (Nat.le_of_ble_eq_true rfl) dX7_lure_21 ⟨Nat.zero_le _, Nat.zero_le _⟩ ?_
    refine lv_if_ne (tgt := 30) hx hb dX7_lure_24 (by decide) (fun c4 => ?_) (fun c4 => ?_)
    · replace hres := (if_pos (bI_t c4)).symm.trans hres
      refine lv_aload_n hx hb dX7_lure_30 rfl (lv_at hl 0 rfl) ?_
      refine gC_X7_house hx hb hts in7 hown hK hI (hts (.fieldLink RX7 12 "TrickHouse" "house" "LTrickHouse$House;") (by decide +kernel)) dX7_lure_31 ?_
      refine lv_iconst (v := 1) hx hb dX7_lure_34 (by decide) ?_
      refine lv_iload_n hx hb dX7_lure_35 rfl (lv_at hl 1 rfl) ?_
      refine lv_ishl hx hb dX7_lure_36 ?_
      refine lv_aload_n hx hb dX7_lure_37 rfl (lv_at hl 0 rfl) ?_
      refine gC_X7_house hx hb hts in7 hown hK hI (hts (.fieldLink RX7 12 "TrickHouse" "house" "LTrickHouse$House;") (by decide +kernel)) dX7_lure_38 ?_
      refine gC_X1_present hx hb hts in1 hown hK hI (hts (.fieldLink RX7 111 "TrickHouse$House" "present" "I") (by decide +kernel)) dX7_lure_41 ?_
      refine lv_iconst (v := 1) hx hb dX7_lure_44 (by decide) ?_
      refine lv_iload_n hx hb dX7_lure_45 rfl (lv_at hl 1 rfl) ?_
      refine lv_ishl hx hb dX7_lure_46 ?_
      refine lv_iconst (v := (-1)) hx hb dX7_lure_47 (by decide) ?_
      refine lv_ixor hx hb dX7_lure_48 ?_
      refine lv_iand hx hb dX7_lure_49 ?_
      obtain ⟨y5, e5, hres⟩ := bd hres
      refine ro_v S (c_X1_fewestCalls l D cy A X A0 v r ((1 : Int32) <<< (a1 &&& 31)) ((v 5) &&& (((1 : Int32) <<< (a1 &&& 31)) ^^^ (-1))) y5 e5) (cwV 2 hts gX7_lure_X1_fewestCalls rfl rfl rfl (by decide +kernel) ⟨Nat.le_of_ble_eq_true rfl, Nat.le_of_ble_eq_true rfl⟩) hI hK hN (ci := 1) rfl (atC_1) rfl rfl hl.1 rfl (Nat.le_of_ble_eq_true rfl) dX7_lure_50 ⟨Nat.zero_le _, Nat.zero_le _⟩ ?_
      obtain rfl := Option.some.inj hres
      exact W.iret hx hb hr (fun t ht hW => ⟨rfl, ht⟩) (fun _ h => absurd h List.not_mem_nil) dX7_lure_53
    · replace hres := (if_neg (bI_f c4)).symm.trans hres
      refine lv_bipush (v := (-3)) hx hb dX7_lure_27 (by decide) ?_
      obtain rfl := Option.some.inj hres
      exact W.iret hx hb hr (fun t ht hW => ⟨rfl, ht⟩) (fun _ h => absurd h List.not_mem_nil) dX7_lure_29
  · replace hres := (if_neg (bI_f c2)).symm.trans hres
    refine lv_iconst (v := (-1)) hx hb dX7_lure_11 (by decide) ?_
    obtain rfl := Option.some.inj hres
    exact W.iret hx hb hr (fun t ht hW => ⟨rfl, ht⟩) (fun _ h => absurd h List.not_mem_nil) dX7_lure_12
abbrev rm_X7_reading : Room := { frames := 2, cells := 0, slots := 0, locals := 42 }
def f_X7_reading (v : Nat → Int32) (r : Nat → Nat → Int32) (a1 : Int32) (a2 : Int32) : Option (Int32 × ST) := (if (f_X7_isCorner a1) = true then (if (f_X7_within a2 (0 : Int32) (99 : Int32)) = true then (if (f_X1_stands v r) = true then (if (v 6) < 8 then (f_X3_add v r a1 a2).bind (fun y8 => some (y8.1, (y8.2.1, y8.2.2))) else some ((-4), (v, r))) else some ((-3), (v, r))) else some ((-2), (v, r))) else some ((-2), (v, r)))
set_option maxHeartbeats 4000000 in
set_option maxRecDepth 100000 in
theorem c_X7_reading (l : Launch) (D : va_G) (cy : Nat → ClassId) (A : Nat → Nat) (X : va_W) (A0 : Nat → Prop) (v : Nat → Int32) (r : Nat → Nat → Int32) (a1 : Int32) (a2 : Int32) (res : Int32) (v2 : Nat → Int32) (r2 : Nat → Nat → Int32) (hres : f_X7_reading v r a1 a2 = some (res, (v2, r2))) : Met l yX7_reading wsX7_reading rm_X7_reading (va_Pc [.ref (A 0), .int a1, .int a2] (GW D (tyC cy) (pcC cy A v r ++ X) A0)) (QW (some (.int res)) (GW D (tyC cy) (pcC cy A v2 r2 ++ X) A0) A0) 0 0 A0 := by
  refine Met.ofW (cc := cX7_reading) (maxL := 3) (ret := (some .int)) (by decide) rfl ?_
  intro p e s m args below meth c s₁ B hml hv
  obtain ⟨hargs, hP, hK, hD0, hN⟩ := hv
  have hx := B.exec
  have hb := B.bytes
  have hr := B.returns
  have hts := atoms_spec (ws := wsX7_reading) B.pre
  have hown : s.vm.findClass RX7 = some m.cls := findClass_of_methodNamed B.named
  have hlocks := B.notSynchronized
  have hI : IW D (pcC cy A v r ++ X) A0 s.heap s.heap [] := ⟨hP, hD0, va_S.rf⟩
  have S : CallFix p m c cX7_reading 3 s args wsX7_reading RX7 := ⟨hx, hb, hml, hown, hts⟩
  have in3 : ∀ w ∈ wsX30, w ∈ wsX7_reading := fun _ h => List.mem_cons_of_mem _ (List.mem_append_left _ (List.mem_append_right _ h))
  have in7 : ∀ w ∈ wsX70, w ∈ wsX7_reading := fun _ h => List.mem_cons_of_mem _ (List.mem_append_left _ (List.mem_append_left _ (List.mem_append_right _ h)))
  have hl := lv_entry ([.ref (A 0), .int a1, .int a2]) (n := 3) (Nat.le_of_ble_eq_true rfl)
  have hE : entryFrame m args 3 = F0 m 0 ((lg_sl ([.ref (A 0), .int a1, .int a2]) ++ List.replicate (3 - (lg_sl ([.ref (A 0), .int a1, .int a2])).length) Slot.unset).toArray) [] := by rw [hargs]; exact lg_entry_eq m [.ref (A 0), .int a1, .int a2] 3
  rw [hE]
  generalize (lg_sl ([.ref (A 0), .int a1, .int a2]) ++ List.replicate (3 - (lg_sl ([.ref (A 0), .int a1, .int a2])).length) Slot.unset).toArray = ls at hl ⊢
  have hl : lv_has ls 3 [(0, .ref (A 0)), (1, .int a1), (2, .int a2)] := hl
  unfold f_X7_reading at hres
  refine lv_iload_n hx hb dX7_reading_0 rfl (lv_at hl 1 rfl) ?_
  refine pu_s S (c_X7_isCorner l a1 _ rfl) (va_cwS 1 hts gX7_reading_X7_isCorner rfl rfl rfl (by decide +kernel) ⟨Nat.le_of_ble_eq_true rfl, Nat.le_of_ble_eq_true rfl⟩) hN rfl hl.1 rfl (Nat.le_of_ble_eq_true rfl) dX7_reading_1 ⟨Nat.zero_le _, Nat.zero_le _⟩ ?_
  refine lv_if_eq (tgt := 17) hx hb dX7_reading_4 (by decide) (fun c2 => ?_) (fun c2 => ?_)
  · replace hres := (if_neg (bI_f c2)).symm.trans hres
    refine lv_bipush (v := (-2)) hx hb dX7_reading_17 (by decide) ?_
    obtain ⟨rfl, rfl, rfl⟩ := pr3 hres
    exact W.iret hx hb hr (fun t ht hW => ⟨rfl, ⟨by rw [ht]; exact hI.1, va_K.moved hW.alike hK, hI.2.1, NW.warm hW hN⟩, hI.2.2.F ht⟩) hI.2.2.2.2 dX7_reading_19
  · replace hres := (if_pos (bI_t c2)).symm.trans hres
    refine lv_iload_n hx hb dX7_reading_7 rfl (lv_at hl 2 rfl) ?_
    refine lv_iconst (v := 0) hx hb dX7_reading_8 (by decide) ?_
    refine lv_bipush (v := 99) hx hb dX7_reading_9 (by decide) ?_
    refine pu_s S (c_X7_within l a2 (0 : Int32) (99 : Int32) _ rfl) (va_cwS 3 hts gX7_reading_X7_within rfl rfl rfl (by decide +kernel) ⟨Nat.le_of_ble_eq_true rfl, Nat.le_of_ble_eq_true rfl⟩) hN rfl hl.1 rfl (Nat.le_of_ble_eq_true rfl) dX7_reading_11 ⟨Nat.zero_le _, Nat.zero_le _⟩ ?_
    refine lv_if_ne (tgt := 20) hx hb dX7_reading_14 (by decide) (fun c4 => ?_) (fun c4 => ?_)
    · replace hres := (if_pos (bI_t c4)).symm.trans hres
      refine lv_aload_n hx hb dX7_reading_20 rfl (lv_at hl 0 rfl) ?_
      refine gC_X7_house hx hb hts in7 hown hK hI (hts (.fieldLink RX7 12 "TrickHouse" "house" "LTrickHouse$House;") (by decide +kernel)) dX7_reading_21 ?_
      refine ro_v S (c_X1_stands l D cy A X A0 v r _ rfl) (cwV 0 hts gX7_reading_X1_stands rfl rfl rfl (by decide +kernel) ⟨Nat.le_of_ble_eq_true rfl, Nat.le_of_ble_eq_true rfl⟩) hI hK hN (ci := 1) rfl (atC_1) rfl rfl hl.1 rfl (Nat.le_of_ble_eq_true rfl) dX7_reading_24 ⟨Nat.zero_le _, Nat.zero_le _⟩ ?_
      refine lv_if_ne (tgt := 33) hx hb dX7_reading_27 (by decide) (fun c6 => ?_) (fun c6 => ?_)
      · replace hres := (if_pos (bI_t c6)).symm.trans hres
        refine lv_aload_n hx hb dX7_reading_33 rfl (lv_at hl 0 rfl) ?_
        refine gC_X7_readings hx hb hts in7 hown hK hI (hts (.fieldLink RX7 21 "TrickHouse" "readings" "LTrickHouse$Readings;") (by decide +kernel)) dX7_reading_34 ?_
        refine gC_X3_count hx hb hts in3 hown hK hI (hts (.fieldLink RX7 80 "TrickHouse$Readings" "count" "I") (by decide +kernel)) dX7_reading_37 ?_
        refine lv_bipush (v := 8) hx hb dX7_reading_40 (by decide) ?_
        refine lv_icmp_lt (tgt := 48) hx hb dX7_reading_42 (by decide) (fun c7 => ?_) (fun c7 => ?_)
        · replace hres := (if_pos c7).symm.trans hres
          refine lv_aload_n hx hb dX7_reading_48 rfl (lv_at hl 0 rfl) ?_
          refine gC_X7_readings hx hb hts in7 hown hK hI (hts (.fieldLink RX7 21 "TrickHouse" "readings" "LTrickHouse$Readings;") (by decide +kernel)) dX7_reading_49 ?_
          refine lv_iload_n hx hb dX7_reading_52 rfl (lv_at hl 1 rfl) ?_
          refine lv_iload_n hx hb dX7_reading_53 rfl (lv_at hl 2 rfl) ?_
          obtain ⟨y8, e8, hres⟩ := bd hres
          refine rw_v S (c_X3_add l D cy A X A0 v r a1 a2 y8.1 y8.2.1 y8.2.2 e8) (cwV 2 hts gX7_reading_X3_add rfl rfl rfl (by decide +kernel) ⟨Nat.le_of_ble_eq_true rfl, Nat.le_of_ble_eq_true rfl⟩) hI hK hN (ci := 3) rfl (atC_4) rfl rfl hl.1 rfl (Nat.le_of_ble_eq_true rfl) dX7_reading_54 ⟨Nat.zero_le _, Nat.zero_le _⟩ (fun H locs hI => ?_)
          obtain ⟨rfl, rfl, rfl⟩ := pr3 hres
          exact W.iret hx hb hr (fun t ht hW => ⟨rfl, ⟨by rw [ht]; exact hI.1, va_K.moved hW.alike hK, hI.2.1, NW.warm hW hN⟩, hI.2.2.F ht⟩) hI.2.2.2.2 dX7_reading_57
        · replace hres := (if_neg c7).symm.trans hres
          refine lv_bipush (v := (-4)) hx hb dX7_reading_45 (by decide) ?_
          obtain ⟨rfl, rfl, rfl⟩ := pr3 hres
          exact W.iret hx hb hr (fun t ht hW => ⟨rfl, ⟨by rw [ht]; exact hI.1, va_K.moved hW.alike hK, hI.2.1, NW.warm hW hN⟩, hI.2.2.F ht⟩) hI.2.2.2.2 dX7_reading_47
      · replace hres := (if_neg (bI_f c6)).symm.trans hres
        refine lv_bipush (v := (-3)) hx hb dX7_reading_30 (by decide) ?_
        obtain ⟨rfl, rfl, rfl⟩ := pr3 hres
        exact W.iret hx hb hr (fun t ht hW => ⟨rfl, ⟨by rw [ht]; exact hI.1, va_K.moved hW.alike hK, hI.2.1, NW.warm hW hN⟩, hI.2.2.F ht⟩) hI.2.2.2.2 dX7_reading_32
    · replace hres := (if_neg (bI_f c4)).symm.trans hres
      refine lv_bipush (v := (-2)) hx hb dX7_reading_17 (by decide) ?_
      obtain ⟨rfl, rfl, rfl⟩ := pr3 hres
      exact W.iret hx hb hr (fun t ht hW => ⟨rfl, ⟨by rw [ht]; exact hI.1, va_K.moved hW.alike hK, hI.2.1, NW.warm hW hN⟩, hI.2.2.F ht⟩) hI.2.2.2.2 dX7_reading_19
abbrev rm_X7_back : Room := { frames := 1, cells := 0, slots := 0, locals := 22 }
def f_X7_back (v : Nat → Int32) (r : Nat → Nat → Int32) (a1 : Int32) : Option (Int32 × ST) := (if (f_X7_within a1 (0 : Int32) (v 6)) = true then some (((upd v 6 ((v 6) - a1)) 6), ((upd v 6 ((v 6) - a1)), r)) else some ((-2), (v, r)))
set_option maxHeartbeats 4000000 in
set_option maxRecDepth 100000 in
theorem c_X7_back (l : Launch) (D : va_G) (cy : Nat → ClassId) (A : Nat → Nat) (X : va_W) (A0 : Nat → Prop) (v : Nat → Int32) (r : Nat → Nat → Int32) (a1 : Int32) (res : Int32) (v2 : Nat → Int32) (r2 : Nat → Nat → Int32) (hres : f_X7_back v r a1 = some (res, (v2, r2))) : Met l yX7_back wsX7_back rm_X7_back (va_Pc [.ref (A 0), .int a1] (GW D (tyC cy) (pcC cy A v r ++ X) A0)) (QW (some (.int res)) (GW D (tyC cy) (pcC cy A v2 r2 ++ X) A0) A0) 0 0 A0 := by
  refine Met.ofW (cc := cX7_back) (maxL := 2) (ret := (some .int)) (by decide) rfl ?_
  intro p e s m args below meth c s₁ B hml hv
  obtain ⟨hargs, hP, hK, hD0, hN⟩ := hv
  have hx := B.exec
  have hb := B.bytes
  have hr := B.returns
  have hts := atoms_spec (ws := wsX7_back) B.pre
  have hown : s.vm.findClass RX7 = some m.cls := findClass_of_methodNamed B.named
  have hlocks := B.notSynchronized
  have hI : IW D (pcC cy A v r ++ X) A0 s.heap s.heap [] := ⟨hP, hD0, va_S.rf⟩
  have S : CallFix p m c cX7_back 2 s args wsX7_back RX7 := ⟨hx, hb, hml, hown, hts⟩
  have in3 : ∀ w ∈ wsX30, w ∈ wsX7_back := fun _ h => List.mem_cons_of_mem _ (List.mem_append_right _ h)
  have in7 : ∀ w ∈ wsX70, w ∈ wsX7_back := fun _ h => List.mem_cons_of_mem _ (List.mem_append_left _ (List.mem_append_right _ h))
  have hl := lv_entry ([.ref (A 0), .int a1]) (n := 2) (Nat.le_of_ble_eq_true rfl)
  have hE : entryFrame m args 2 = F0 m 0 ((lg_sl ([.ref (A 0), .int a1]) ++ List.replicate (2 - (lg_sl ([.ref (A 0), .int a1])).length) Slot.unset).toArray) [] := by rw [hargs]; exact lg_entry_eq m [.ref (A 0), .int a1] 2
  rw [hE]
  generalize (lg_sl ([.ref (A 0), .int a1]) ++ List.replicate (2 - (lg_sl ([.ref (A 0), .int a1])).length) Slot.unset).toArray = ls at hl ⊢
  have hl : lv_has ls 2 [(0, .ref (A 0)), (1, .int a1)] := hl
  unfold f_X7_back at hres
  refine lv_iload_n hx hb dX7_back_0 rfl (lv_at hl 1 rfl) ?_
  refine lv_iconst (v := 0) hx hb dX7_back_1 (by decide) ?_
  refine lv_aload_n hx hb dX7_back_2 rfl (lv_at hl 0 rfl) ?_
  refine gC_X7_readings hx hb hts in7 hown hK hI (hts (.fieldLink RX7 21 "TrickHouse" "readings" "LTrickHouse$Readings;") (by decide +kernel)) dX7_back_3 ?_
  refine gC_X3_count hx hb hts in3 hown hK hI (hts (.fieldLink RX7 80 "TrickHouse$Readings" "count" "I") (by decide +kernel)) dX7_back_6 ?_
  refine pu_s S (c_X7_within l a1 (0 : Int32) (v 6) _ rfl) (va_cwS 3 hts gX7_back_X7_within rfl rfl rfl (by decide +kernel) ⟨Nat.le_of_ble_eq_true rfl, Nat.le_of_ble_eq_true rfl⟩) hN rfl hl.1 rfl (Nat.le_of_ble_eq_true rfl) dX7_back_9 ⟨Nat.zero_le _, Nat.zero_le _⟩ ?_
  refine lv_if_ne (tgt := 18) hx hb dX7_back_12 (by decide) (fun c2 => ?_) (fun c2 => ?_)
  · replace hres := (if_pos (bI_t c2)).symm.trans hres
    refine lv_aload_n hx hb dX7_back_18 rfl (lv_at hl 0 rfl) ?_
    refine gC_X7_readings hx hb hts in7 hown hK hI (hts (.fieldLink RX7 21 "TrickHouse" "readings" "LTrickHouse$Readings;") (by decide +kernel)) dX7_back_19 ?_
    refine lv_dup hx hb dX7_back_22 rfl ?_
    refine gC_X3_count hx hb hts in3 hown hK hI (hts (.fieldLink RX7 80 "TrickHouse$Readings" "count" "I") (by decide +kernel)) dX7_back_23 ?_
    refine lv_iload_n hx hb dX7_back_26 rfl (lv_at hl 1 rfl) ?_
    refine lv_isub hx hb dX7_back_27 ?_
    refine pC_X3_count hx hb hts in3 hown hK hI (hts (.fieldLink RX7 80 "TrickHouse$Readings" "count" "I") (by decide +kernel)) dX7_back_28 (fun H locs hI => ?_)
    refine lv_aload_n hx hb dX7_back_31 rfl (lv_at hl 0 rfl) ?_
    refine gC_X7_readings hx hb hts in7 hown hK hI (hts (.fieldLink RX7 21 "TrickHouse" "readings" "LTrickHouse$Readings;") (by decide +kernel)) dX7_back_32 ?_
    refine gC_X3_count hx hb hts in3 hown hK hI (hts (.fieldLink RX7 80 "TrickHouse$Readings" "count" "I") (by decide +kernel)) dX7_back_35 ?_
    obtain ⟨rfl, rfl, rfl⟩ := pr3 hres
    exact W.iret hx hb hr (fun t ht hW => ⟨rfl, ⟨by rw [ht]; exact hI.1, va_K.moved hW.alike hK, hI.2.1, NW.warm hW hN⟩, hI.2.2.F ht⟩) hI.2.2.2.2 dX7_back_38
  · replace hres := (if_neg (bI_f c2)).symm.trans hres
    refine lv_bipush (v := (-2)) hx hb dX7_back_15 (by decide) ?_
    obtain ⟨rfl, rfl, rfl⟩ := pr3 hres
    exact W.iret hx hb hr (fun t ht hW => ⟨rfl, ⟨by rw [ht]; exact hI.1, va_K.moved hW.alike hK, hI.2.1, NW.warm hW hN⟩, hI.2.2.F ht⟩) hI.2.2.2.2 dX7_back_17
abbrev rm_X7_gaieties : Room := { frames := 4, cells := 0, slots := 0, locals := 88 }
def f_X7_gaieties_31 (v : Nat → Int32) (r : Nat → Nat → Int32) (a1 : Int32) : Nat → Int32 → Int32 → Int32 → Option Int32
  | 0, _, _, _ => none
  | n31 + 1, x2, x3, x4 => (if 9 < x4 then some (x3) else (f_X1_laughIf v r a1 x2 x4).bind (fun y5 => (f_X3_allAreSo v r (v 4) y5).bind (fun y6 => (if y6 = true then f_X7_gaieties_31 v r a1 n31 x2 (x3 ||| ((1 : Int32) <<< (x4 &&& 31))) (x4 + 1) else f_X7_gaieties_31 v r a1 n31 x2 x3 (x4 + 1)))))
theorem f_X7_gaieties_31_s (v : Nat → Int32) (r : Nat → Nat → Int32) (a1 : Int32) (n31 : Nat) (x2 : Int32) (x3 : Int32) (x4 : Int32) : f_X7_gaieties_31 v r a1 (n31 + 1) x2 x3 x4 = (if 9 < x4 then some (x3) else (f_X1_laughIf v r a1 x2 x4).bind (fun y5 => (f_X3_allAreSo v r (v 4) y5).bind (fun y6 => (if y6 = true then f_X7_gaieties_31 v r a1 n31 x2 (x3 ||| ((1 : Int32) <<< (x4 &&& 31))) (x4 + 1) else f_X7_gaieties_31 v r a1 n31 x2 x3 (x4 + 1))))) := rfl
def f_X7_gaieties (v : Nat → Int32) (r : Nat → Nat → Int32) (a1 : Int32) : Option Int32 := (if (f_X1_isArticle v r a1) = true then if inR a1 6 = true then f_X7_gaieties_31 v r a1 80 (r 0 a1.toNatClampNeg) (0 : Int32) (0 : Int32) else none else some ((-1)))
set_option maxHeartbeats 4000000 in
set_option maxRecDepth 100000 in
theorem c_X7_gaieties (l : Launch) (D : va_G) (cy : Nat → ClassId) (A : Nat → Nat) (X : va_W) (A0 : Nat → Prop) (v : Nat → Int32) (r : Nat → Nat → Int32) (a1 : Int32) (res : Int32) (hres : f_X7_gaieties v r a1 = some res) : Met l yX7_gaieties wsX7_gaieties rm_X7_gaieties (va_Pc [.ref (A 0), .int a1] (GW D (tyC cy) (pcC cy A v r ++ X) A0)) (QR (.int res)) 0 0 (fun _ => False) := by
  refine Met.ofW (cc := cX7_gaieties) (maxL := 5) (ret := (some .int)) (by decide) rfl ?_
  intro p e s m args below meth c s₁ B hml hv
  obtain ⟨hargs, hP, hK, hD0, hN⟩ := hv
  have hx := B.exec
  have hb := B.bytes
  have hr := B.returns
  have hts := atoms_spec (ws := wsX7_gaieties) B.pre
  have hown : s.vm.findClass RX7 = some m.cls := findClass_of_methodNamed B.named
  have hlocks := B.notSynchronized
  have hI : IW D (pcC cy A v r ++ X) A0 s.heap s.heap [] := ⟨hP, hD0, va_S.rf⟩
  have S : CallFix p m c cX7_gaieties 5 s args wsX7_gaieties RX7 := ⟨hx, hb, hml, hown, hts⟩
  have in0 : ∀ w ∈ wsX00, w ∈ wsX7_gaieties := fun _ h => List.mem_cons_of_mem _ (List.mem_append_left _ (List.mem_append_right _ h))
  have in1 : ∀ w ∈ wsX10, w ∈ wsX7_gaieties := fun _ h => List.mem_cons_of_mem _ (List.mem_append_left _ (List.mem_append_left _ (List.mem_append_right _ h)))
  have in7 : ∀ w ∈ wsX70, w ∈ wsX7_gaieties := fun _ h => List.mem_cons_of_mem _ (List.mem_append_left _ (List.mem_append_left _ (List.mem_append_left _ (List.mem_append_right _ h))))
  have hl := lv_entry ([.ref (A 0), .int a1]) (n := 5) (Nat.le_of_ble_eq_true rfl)
  have hE : entryFrame m args 5 = F0 m 0 ((lg_sl ([.ref (A 0), .int a1]) ++ List.replicate (5 - (lg_sl ([.ref (A 0), .int a1])).length) Slot.unset).toArray) [] := by rw [hargs]; exact lg_entry_eq m [.ref (A 0), .int a1] 5
  rw [hE]
  generalize (lg_sl ([.ref (A 0), .int a1]) ++ List.replicate (5 - (lg_sl ([.ref (A 0), .int a1])).length) Slot.unset).toArray = ls at hl ⊢
  have hl : lv_has ls 5 [(0, .ref (A 0)), (1, .int a1)] := hl
  unfold f_X7_gaieties at hres
  refine lv_aload_n hx hb dX7_gaieties_0 rfl (lv_at hl 0 rfl) ?_
  refine gC_X7_house hx hb hts in7 hown hK hI (hts (.fieldLink RX7 12 "TrickHouse" "house" "LTrickHouse$House;") (by decide +kernel)) dX7_gaieties_1 ?_
  refine lv_iload_n hx hb dX7_gaieties_4 rfl (lv_at hl 1 rfl) ?_
  refine ro_v S (c_X1_isArticle l D cy A X A0 v r a1 _ rfl) (cwV 1 hts gX7_gaieties_X1_isArticle rfl rfl rfl (by decide +kernel) ⟨Nat.le_of_ble_eq_true rfl, Nat.le_of_ble_eq_true rfl⟩) hI hK hN (ci := 1) rfl (atC_1) rfl rfl hl.1 rfl (Nat.le_of_ble_eq_true rfl) dX7_gaieties_5 ⟨Nat.zero_le _, Nat.zero_le _⟩ ?_
  refine lv_if_ne (tgt := 13) hx hb dX7_gaieties_8 (by decide) (fun c2 => ?_) (fun c2 => ?_)
  · replace hres := (if_pos (bI_t c2)).symm.trans hres
    refine lv_aload_n hx hb dX7_gaieties_13 rfl (lv_at hl 0 rfl) ?_
    refine gC_X7_house hx hb hts in7 hown hK hI (hts (.fieldLink RX7 12 "TrickHouse" "house" "LTrickHouse$House;") (by decide +kernel)) dX7_gaieties_14 ?_
    refine gC_X1_articles hx hb hts in1 hown hK hI (hts (.fieldLink RX7 89 "TrickHouse$House" "articles" "[LTrickHouse$Article;") (by decide +kernel)) dX7_gaieties_17 ?_
    refine lv_iload_n hx hb dX7_gaieties_20 rfl (lv_at hl 1 rfl) ?_
    obtain ⟨g3, hres⟩ := gd hres
    refine th_ald (f := fun k => A (13 + k)) hx hb hK hI 2 1 rfl rfl g3 dX7_gaieties_21 ?_
    refine gC_X0_kind (inR_lt g3) hx hb hts in0 hown hK hI (hts (.fieldLink RX7 93 "TrickHouse$Article" "kind" "I") (by decide +kernel)) dX7_gaieties_22 ?_
    refine lv_istore_n (lv' := [(2, .int (r 0 a1.toNatClampNeg)), (0, .ref (A 0)), (1, .int a1)]) hx hb dX7_gaieties_25 rfl hl (by decide) rfl (fun ls hl => ?_)
    refine lv_iconst (v := 0) hx hb dX7_gaieties_26 (by decide) ?_
    refine lv_istore_n (lv' := [(3, .int 0), (2, .int (r 0 a1.toNatClampNeg)), (0, .ref (A 0)), (1, .int a1)]) hx hb dX7_gaieties_27 rfl hl (by decide) rfl (fun ls hl => ?_)
    refine lv_iconst (v := 0) hx hb dX7_gaieties_28 (by decide) ?_
    refine lv_istore (lv' := [(4, .int 0), (3, .int 0), (2, .int (r 0 a1.toNatClampNeg)), (0, .ref (A 0)), (1, .int a1)]) hx hb dX7_gaieties_29 hl (by decide) rfl (fun ls hl => ?_)
    have w31 : ∀ (n31 : Nat) (x2 : Int32) (x3 : Int32) (x4 : Int32), f_X7_gaieties_31 v r a1 n31 x2 x3 x4 = some res → ∀ ls : Array Slot, lv_has ls 5 [(2, .int x2), (3, .int x3), (4, .int x4), (0, .ref (A 0)), (1, .int a1)] → W p l e (headSpec wsX7_gaieties rm_X7_gaieties).room s m args below meth c s.heap [] 0 0 (MQ below (QR (.int res)) args s 0 0 (fun _ => False)) (F0 m 31 ls []) := by
      intro n31
      induction n31 with
      | zero =>
        intro x2 x3 x4  hres
        have hres : (none : Option Int32) = some res := hres
        cases hres
      | succ n31 ih31 =>
        intro x2 x3 x4  hres ls hl
        replace hres := (f_X7_gaieties_31_s v r a1 n31 x2 x3 x4).symm.trans hres
        refine lv_iload hx hb dX7_gaieties_31 (lv_at hl 2 rfl) ?_
        refine lv_bipush (v := 9) hx hb dX7_gaieties_33 (by decide) ?_
        refine lv_icmp_gt (tgt := 79) hx hb dX7_gaieties_35 (by decide) (fun c4 => ?_) (fun c4 => ?_)
        · replace hres := (if_pos c4).symm.trans hres
          refine lv_iload_n hx hb dX7_gaieties_79 rfl (lv_at hl 1 rfl) ?_
          obtain rfl := Option.some.inj hres
          exact W.iret hx hb hr (fun t ht hW => ⟨rfl, ht⟩) (fun _ h => absurd h List.not_mem_nil) dX7_gaieties_80
        · replace hres := (if_neg c4).symm.trans hres
          refine lv_aload_n hx hb dX7_gaieties_38 rfl (lv_at hl 3 rfl) ?_
          refine gC_X7_readings hx hb hts in7 hown hK hI (hts (.fieldLink RX7 21 "TrickHouse" "readings" "LTrickHouse$Readings;") (by decide +kernel)) dX7_gaieties_39 ?_
          refine lv_aload_n hx hb dX7_gaieties_42 rfl (lv_at hl 3 rfl) ?_
          refine gC_X7_house hx hb hts in7 hown hK hI (hts (.fieldLink RX7 12 "TrickHouse" "house" "LTrickHouse$House;") (by decide +kernel)) dX7_gaieties_43 ?_
          refine gC_X1_corner hx hb hts in1 hown hK hI (hts (.fieldLink RX7 136 "TrickHouse$House" "corner" "I") (by decide +kernel)) dX7_gaieties_46 ?_
          refine lv_aload_n hx hb dX7_gaieties_49 rfl (lv_at hl 3 rfl) ?_
          refine gC_X7_house hx hb hts in7 hown hK hI (hts (.fieldLink RX7 12 "TrickHouse" "house" "LTrickHouse$House;") (by decide +kernel)) dX7_gaieties_50 ?_
          refine lv_iload_n hx hb dX7_gaieties_53 rfl (lv_at hl 4 rfl) ?_
          refine lv_iload_n hx hb dX7_gaieties_54 rfl (lv_at hl 0 rfl) ?_
          refine lv_iload hx hb dX7_gaieties_55 (lv_at hl 2 rfl) ?_
          obtain ⟨y5, e5, hres⟩ := bd hres
          refine ro_v S (c_X1_laughIf l D cy A X A0 v r a1 x2 x4 y5 e5) (cwV 3 hts gX7_gaieties_X1_laughIf rfl rfl rfl (by decide +kernel) ⟨Nat.le_of_ble_eq_true rfl, Nat.le_of_ble_eq_true rfl⟩) hI hK hN (ci := 1) rfl (atC_1) rfl rfl hl.1 rfl (Nat.le_of_ble_eq_true rfl) dX7_gaieties_57 ⟨Nat.zero_le _, Nat.zero_le _⟩ ?_
          obtain ⟨y6, e6, hres⟩ := bd hres
          refine ro_v S (c_X3_allAreSo l D cy A X A0 v r (v 4) y5 y6 e6) (cwV 2 hts gX7_gaieties_X3_allAreSo rfl rfl rfl (by decide +kernel) ⟨Nat.le_of_ble_eq_true rfl, Nat.le_of_ble_eq_true rfl⟩) hI hK hN (ci := 3) rfl (atC_4) rfl rfl hl.1 rfl (Nat.le_of_ble_eq_true rfl) dX7_gaieties_60 ⟨Nat.zero_le _, Nat.zero_le _⟩ ?_
          refine lv_if_eq (tgt := 73) hx hb dX7_gaieties_63 (by decide) (fun c7 => ?_) (fun c7 => ?_)
          · replace hres := (if_neg (bI_f c7)).symm.trans hres
            refine lv_iinc (v := (x4 + 1)) (lv' := [(4, .int (x4 + 1)), (2, .int x2), (3, .int x3), (0, .ref (A 0)), (1, .int a1)]) hx hb dX7_gaieties_73 hl (k := 2) rfl rfl (by decide) rfl (fun ls hl => ?_)
            refine lv_goto (tgt := 31) hx hb dX7_gaieties_76 (by decide) ?_
            exact ih31 x2 x3 (x4 + 1) hres ls (lv_sub hl [1, 2, 0, 3, 4] rfl)
          · replace hres := (if_pos (bI_t c7)).symm.trans hres
            refine lv_iload_n hx hb dX7_gaieties_66 rfl (lv_at hl 1 rfl) ?_
            refine lv_iconst (v := 1) hx hb dX7_gaieties_67 (by decide) ?_
            refine lv_iload hx hb dX7_gaieties_68 (lv_at hl 2 rfl) ?_
            refine lv_ishl hx hb dX7_gaieties_70 ?_
            refine lv_ior hx hb dX7_gaieties_71 ?_
            refine lv_istore_n (lv' := [(3, .int (x3 ||| ((1 : Int32) <<< (x4 &&& 31)))), (2, .int x2), (4, .int x4), (0, .ref (A 0)), (1, .int a1)]) hx hb dX7_gaieties_72 rfl hl (by decide) rfl (fun ls hl => ?_)
            refine lv_iinc (v := (x4 + 1)) (lv' := [(4, .int (x4 + 1)), (3, .int (x3 ||| ((1 : Int32) <<< (x4 &&& 31)))), (2, .int x2), (0, .ref (A 0)), (1, .int a1)]) hx hb dX7_gaieties_73 hl (k := 2) rfl rfl (by decide) rfl (fun ls hl => ?_)
            refine lv_goto (tgt := 31) hx hb dX7_gaieties_76 (by decide) ?_
            exact ih31 x2 (x3 ||| ((1 : Int32) <<< (x4 &&& 31))) (x4 + 1) hres ls (lv_sub hl [2, 1, 0, 3, 4] rfl)
    exact w31 80 (r 0 a1.toNatClampNeg) (0 : Int32) (0 : Int32) hres ls (lv_sub hl [2, 1, 0, 3, 4] rfl)
  · replace hres := (if_neg (bI_f c2)).symm.trans hres
    refine lv_iconst (v := (-1)) hx hb dX7_gaieties_11 (by decide) ?_
    obtain rfl := Option.some.inj hres
    exact W.iret hx hb hr (fun t ht hW => ⟨rfl, ht⟩) (fun _ h => absurd h List.not_mem_nil) dX7_gaieties_12
abbrev rm_X7_kinds : Room := { frames := 4, cells := 0, slots := 0, locals := 88 }
def f_X7_kinds_31 (v : Nat → Int32) (r : Nat → Nat → Int32) (a1 : Int32) : Nat → Int32 → Int32 → Int32 → Option Int32
  | 0, _, _, _ => none
  | n31 + 1, x2, x3, x4 => (if 3 ≤ x4 then some (x3) else (f_X1_laughIf v r a1 x4 x2).bind (fun y5 => (f_X3_allAreSo v r (v 4) y5).bind (fun y6 => (if y6 = true then f_X7_kinds_31 v r a1 n31 x2 (x3 ||| ((1 : Int32) <<< (x4 &&& 31))) (x4 + 1) else f_X7_kinds_31 v r a1 n31 x2 x3 (x4 + 1)))))
theorem f_X7_kinds_31_s (v : Nat → Int32) (r : Nat → Nat → Int32) (a1 : Int32) (n31 : Nat) (x2 : Int32) (x3 : Int32) (x4 : Int32) : f_X7_kinds_31 v r a1 (n31 + 1) x2 x3 x4 = (if 3 ≤ x4 then some (x3) else (f_X1_laughIf v r a1 x4 x2).bind (fun y5 => (f_X3_allAreSo v r (v 4) y5).bind (fun y6 => (if y6 = true then f_X7_kinds_31 v r a1 n31 x2 (x3 ||| ((1 : Int32) <<< (x4 &&& 31))) (x4 + 1) else f_X7_kinds_31 v r a1 n31 x2 x3 (x4 + 1))))) := rfl
def f_X7_kinds (v : Nat → Int32) (r : Nat → Nat → Int32) (a1 : Int32) : Option Int32 := (if (f_X1_isArticle v r a1) = true then if inR a1 6 = true then f_X7_kinds_31 v r a1 80 (r 2 a1.toNatClampNeg) (0 : Int32) (0 : Int32) else none else some ((-1)))
set_option maxHeartbeats 4000000 in
set_option maxRecDepth 100000 in
theorem c_X7_kinds (l : Launch) (D : va_G) (cy : Nat → ClassId) (A : Nat → Nat) (X : va_W) (A0 : Nat → Prop) (v : Nat → Int32) (r : Nat → Nat → Int32) (a1 : Int32) (res : Int32) (hres : f_X7_kinds v r a1 = some res) : Met l yX7_kinds wsX7_kinds rm_X7_kinds (va_Pc [.ref (A 0), .int a1] (GW D (tyC cy) (pcC cy A v r ++ X) A0)) (QR (.int res)) 0 0 (fun _ => False) := by
  refine Met.ofW (cc := cX7_kinds) (maxL := 5) (ret := (some .int)) (by decide) rfl ?_
  intro p e s m args below meth c s₁ B hml hv
  obtain ⟨hargs, hP, hK, hD0, hN⟩ := hv
  have hx := B.exec
  have hb := B.bytes
  have hr := B.returns
  have hts := atoms_spec (ws := wsX7_kinds) B.pre
  have hown : s.vm.findClass RX7 = some m.cls := findClass_of_methodNamed B.named
  have hlocks := B.notSynchronized
  have hI : IW D (pcC cy A v r ++ X) A0 s.heap s.heap [] := ⟨hP, hD0, va_S.rf⟩
  have S : CallFix p m c cX7_kinds 5 s args wsX7_kinds RX7 := ⟨hx, hb, hml, hown, hts⟩
  have in0 : ∀ w ∈ wsX00, w ∈ wsX7_kinds := fun _ h => List.mem_cons_of_mem _ (List.mem_append_left _ (List.mem_append_right _ h))
  have in1 : ∀ w ∈ wsX10, w ∈ wsX7_kinds := fun _ h => List.mem_cons_of_mem _ (List.mem_append_left _ (List.mem_append_left _ (List.mem_append_right _ h)))
  have in7 : ∀ w ∈ wsX70, w ∈ wsX7_kinds := fun _ h => List.mem_cons_of_mem _ (List.mem_append_left _ (List.mem_append_left _ (List.mem_append_left _ (List.mem_append_right _ h))))
  have hl := lv_entry ([.ref (A 0), .int a1]) (n := 5) (Nat.le_of_ble_eq_true rfl)
  have hE : entryFrame m args 5 = F0 m 0 ((lg_sl ([.ref (A 0), .int a1]) ++ List.replicate (5 - (lg_sl ([.ref (A 0), .int a1])).length) Slot.unset).toArray) [] := by rw [hargs]; exact lg_entry_eq m [.ref (A 0), .int a1] 5
  rw [hE]
  generalize (lg_sl ([.ref (A 0), .int a1]) ++ List.replicate (5 - (lg_sl ([.ref (A 0), .int a1])).length) Slot.unset).toArray = ls at hl ⊢
  have hl : lv_has ls 5 [(0, .ref (A 0)), (1, .int a1)] := hl
  unfold f_X7_kinds at hres
  refine lv_aload_n hx hb dX7_kinds_0 rfl (lv_at hl 0 rfl) ?_
  refine gC_X7_house hx hb hts in7 hown hK hI (hts (.fieldLink RX7 12 "TrickHouse" "house" "LTrickHouse$House;") (by decide +kernel)) dX7_kinds_1 ?_
  refine lv_iload_n hx hb dX7_kinds_4 rfl (lv_at hl 1 rfl) ?_
  refine ro_v S (c_X1_isArticle l D cy A X A0 v r a1 _ rfl) (cwV 1 hts gX7_kinds_X1_isArticle rfl rfl rfl (by decide +kernel) ⟨Nat.le_of_ble_eq_true rfl, Nat.le_of_ble_eq_true rfl⟩) hI hK hN (ci := 1) rfl (atC_1) rfl rfl hl.1 rfl (Nat.le_of_ble_eq_true rfl) dX7_kinds_5 ⟨Nat.zero_le _, Nat.zero_le _⟩ ?_
  refine lv_if_ne (tgt := 13) hx hb dX7_kinds_8 (by decide) (fun c2 => ?_) (fun c2 => ?_)
  · replace hres := (if_pos (bI_t c2)).symm.trans hres
    refine lv_aload_n hx hb dX7_kinds_13 rfl (lv_at hl 0 rfl) ?_
    refine gC_X7_house hx hb hts in7 hown hK hI (hts (.fieldLink RX7 12 "TrickHouse" "house" "LTrickHouse$House;") (by decide +kernel)) dX7_kinds_14 ?_
    refine gC_X1_articles hx hb hts in1 hown hK hI (hts (.fieldLink RX7 89 "TrickHouse$House" "articles" "[LTrickHouse$Article;") (by decide +kernel)) dX7_kinds_17 ?_
    refine lv_iload_n hx hb dX7_kinds_20 rfl (lv_at hl 1 rfl) ?_
    obtain ⟨g3, hres⟩ := gd hres
    refine th_ald (f := fun k => A (13 + k)) hx hb hK hI 2 1 rfl rfl g3 dX7_kinds_21 ?_
    refine gC_X0_gaiety (inR_lt g3) hx hb hts in0 hown hK hI (hts (.fieldLink RX7 101 "TrickHouse$Article" "gaiety" "I") (by decide +kernel)) dX7_kinds_22 ?_
    refine lv_istore_n (lv' := [(2, .int (r 2 a1.toNatClampNeg)), (0, .ref (A 0)), (1, .int a1)]) hx hb dX7_kinds_25 rfl hl (by decide) rfl (fun ls hl => ?_)
    refine lv_iconst (v := 0) hx hb dX7_kinds_26 (by decide) ?_
    refine lv_istore_n (lv' := [(3, .int 0), (2, .int (r 2 a1.toNatClampNeg)), (0, .ref (A 0)), (1, .int a1)]) hx hb dX7_kinds_27 rfl hl (by decide) rfl (fun ls hl => ?_)
    refine lv_iconst (v := 0) hx hb dX7_kinds_28 (by decide) ?_
    refine lv_istore (lv' := [(4, .int 0), (3, .int 0), (2, .int (r 2 a1.toNatClampNeg)), (0, .ref (A 0)), (1, .int a1)]) hx hb dX7_kinds_29 hl (by decide) rfl (fun ls hl => ?_)
    have w31 : ∀ (n31 : Nat) (x2 : Int32) (x3 : Int32) (x4 : Int32), f_X7_kinds_31 v r a1 n31 x2 x3 x4 = some res → ∀ ls : Array Slot, lv_has ls 5 [(2, .int x2), (3, .int x3), (4, .int x4), (0, .ref (A 0)), (1, .int a1)] → W p l e (headSpec wsX7_kinds rm_X7_kinds).room s m args below meth c s.heap [] 0 0 (MQ below (QR (.int res)) args s 0 0 (fun _ => False)) (F0 m 31 ls []) := by
      intro n31
      induction n31 with
      | zero =>
        intro x2 x3 x4  hres
        have hres : (none : Option Int32) = some res := hres
        cases hres
      | succ n31 ih31 =>
        intro x2 x3 x4  hres ls hl
        replace hres := (f_X7_kinds_31_s v r a1 n31 x2 x3 x4).symm.trans hres
        refine lv_iload hx hb dX7_kinds_31 (lv_at hl 2 rfl) ?_
        refine lv_iconst (v := 3) hx hb dX7_kinds_33 (by decide) ?_
        refine lv_icmp_ge (tgt := 78) hx hb dX7_kinds_34 (by decide) (fun c4 => ?_) (fun c4 => ?_)
        · replace hres := (if_pos c4).symm.trans hres
          refine lv_iload_n hx hb dX7_kinds_78 rfl (lv_at hl 1 rfl) ?_
          obtain rfl := Option.some.inj hres
          exact W.iret hx hb hr (fun t ht hW => ⟨rfl, ht⟩) (fun _ h => absurd h List.not_mem_nil) dX7_kinds_79
        · replace hres := (if_neg c4).symm.trans hres
          refine lv_aload_n hx hb dX7_kinds_37 rfl (lv_at hl 3 rfl) ?_
          refine gC_X7_readings hx hb hts in7 hown hK hI (hts (.fieldLink RX7 21 "TrickHouse" "readings" "LTrickHouse$Readings;") (by decide +kernel)) dX7_kinds_38 ?_
          refine lv_aload_n hx hb dX7_kinds_41 rfl (lv_at hl 3 rfl) ?_
          refine gC_X7_house hx hb hts in7 hown hK hI (hts (.fieldLink RX7 12 "TrickHouse" "house" "LTrickHouse$House;") (by decide +kernel)) dX7_kinds_42 ?_
          refine gC_X1_corner hx hb hts in1 hown hK hI (hts (.fieldLink RX7 136 "TrickHouse$House" "corner" "I") (by decide +kernel)) dX7_kinds_45 ?_
          refine lv_aload_n hx hb dX7_kinds_48 rfl (lv_at hl 3 rfl) ?_
          refine gC_X7_house hx hb hts in7 hown hK hI (hts (.fieldLink RX7 12 "TrickHouse" "house" "LTrickHouse$House;") (by decide +kernel)) dX7_kinds_49 ?_
          refine lv_iload_n hx hb dX7_kinds_52 rfl (lv_at hl 4 rfl) ?_
          refine lv_iload hx hb dX7_kinds_53 (lv_at hl 2 rfl) ?_
          refine lv_iload_n hx hb dX7_kinds_55 rfl (lv_at hl 0 rfl) ?_
          obtain ⟨y5, e5, hres⟩ := bd hres
          refine ro_v S (c_X1_laughIf l D cy A X A0 v r a1 x4 x2 y5 e5) (cwV 3 hts gX7_kinds_X1_laughIf rfl rfl rfl (by decide +kernel) ⟨Nat.le_of_ble_eq_true rfl, Nat.le_of_ble_eq_true rfl⟩) hI hK hN (ci := 1) rfl (atC_1) rfl rfl hl.1 rfl (Nat.le_of_ble_eq_true rfl) dX7_kinds_56 ⟨Nat.zero_le _, Nat.zero_le _⟩ ?_
          obtain ⟨y6, e6, hres⟩ := bd hres
          refine ro_v S (c_X3_allAreSo l D cy A X A0 v r (v 4) y5 y6 e6) (cwV 2 hts gX7_kinds_X3_allAreSo rfl rfl rfl (by decide +kernel) ⟨Nat.le_of_ble_eq_true rfl, Nat.le_of_ble_eq_true rfl⟩) hI hK hN (ci := 3) rfl (atC_4) rfl rfl hl.1 rfl (Nat.le_of_ble_eq_true rfl) dX7_kinds_59 ⟨Nat.zero_le _, Nat.zero_le _⟩ ?_
          refine lv_if_eq (tgt := 72) hx hb dX7_kinds_62 (by decide) (fun c7 => ?_) (fun c7 => ?_)
          · replace hres := (if_neg (bI_f c7)).symm.trans hres
            refine lv_iinc (v := (x4 + 1)) (lv' := [(4, .int (x4 + 1)), (2, .int x2), (3, .int x3), (0, .ref (A 0)), (1, .int a1)]) hx hb dX7_kinds_72 hl (k := 2) rfl rfl (by decide) rfl (fun ls hl => ?_)
            refine lv_goto (tgt := 31) hx hb dX7_kinds_75 (by decide) ?_
            exact ih31 x2 x3 (x4 + 1) hres ls (lv_sub hl [1, 2, 0, 3, 4] rfl)
          · replace hres := (if_pos (bI_t c7)).symm.trans hres
            refine lv_iload_n hx hb dX7_kinds_65 rfl (lv_at hl 1 rfl) ?_
            refine lv_iconst (v := 1) hx hb dX7_kinds_66 (by decide) ?_
            refine lv_iload hx hb dX7_kinds_67 (lv_at hl 2 rfl) ?_
            refine lv_ishl hx hb dX7_kinds_69 ?_
            refine lv_ior hx hb dX7_kinds_70 ?_
            refine lv_istore_n (lv' := [(3, .int (x3 ||| ((1 : Int32) <<< (x4 &&& 31)))), (2, .int x2), (4, .int x4), (0, .ref (A 0)), (1, .int a1)]) hx hb dX7_kinds_71 rfl hl (by decide) rfl (fun ls hl => ?_)
            refine lv_iinc (v := (x4 + 1)) (lv' := [(4, .int (x4 + 1)), (3, .int (x3 ||| ((1 : Int32) <<< (x4 &&& 31)))), (2, .int x2), (0, .ref (A 0)), (1, .int a1)]) hx hb dX7_kinds_72 hl (k := 2) rfl rfl (by decide) rfl (fun ls hl => ?_)
            refine lv_goto (tgt := 31) hx hb dX7_kinds_75 (by decide) ?_
            exact ih31 x2 (x3 ||| ((1 : Int32) <<< (x4 &&& 31))) (x4 + 1) hres ls (lv_sub hl [2, 1, 0, 3, 4] rfl)
    exact w31 80 (r 2 a1.toNatClampNeg) (0 : Int32) (0 : Int32) hres ls (lv_sub hl [2, 1, 0, 3, 4] rfl)
  · replace hres := (if_neg (bI_f c2)).symm.trans hres
    refine lv_iconst (v := (-1)) hx hb dX7_kinds_11 (by decide) ?_
    obtain rfl := Option.some.inj hres
    exact W.iret hx hb hr (fun t ht hW => ⟨rfl, ht⟩) (fun _ h => absurd h List.not_mem_nil) dX7_kinds_12
abbrev rm_X7_wheres : Room := { frames := 3, cells := 0, slots := 0, locals := 71 }
def f_X7_wheres_43 (v : Nat → Int32) (r : Nat → Nat → Int32) (a1 : Int32) : Nat → Int32 → Int64 → Int32 → Option Int64
  | 0, _, _, _ => none
  | n43 + 1, x2, x3, x5 => (if 32 ≤ x5 then some (x3) else (f_X3_allAreSo v r ((32 * a1) + x5) x2).bind (fun y7 => (if y7 = true then f_X7_wheres_43 v r a1 n43 x2 (x3 ||| ((1 : Int64) <<< (x5.toInt64 &&& 63))) (x5 + 1) else f_X7_wheres_43 v r a1 n43 x2 x3 (x5 + 1))))
theorem f_X7_wheres_43_s (v : Nat → Int32) (r : Nat → Nat → Int32) (a1 : Int32) (n43 : Nat) (x2 : Int32) (x3 : Int64) (x5 : Int32) : f_X7_wheres_43 v r a1 (n43 + 1) x2 x3 x5 = (if 32 ≤ x5 then some (x3) else (f_X3_allAreSo v r ((32 * a1) + x5) x2).bind (fun y7 => (if y7 = true then f_X7_wheres_43 v r a1 n43 x2 (x3 ||| ((1 : Int64) <<< (x5.toInt64 &&& 63))) (x5 + 1) else f_X7_wheres_43 v r a1 n43 x2 x3 (x5 + 1)))) := rfl
def f_X7_wheres (v : Nat → Int32) (r : Nat → Nat → Int32) (a1 : Int32) : Option Int64 := (if (f_X7_within a1 (0 : Int32) (1 : Int32)) = true then (if (f_X1_stands v r) = true then (f_X1_laughOf v r (v 5)).bind (fun y5 => f_X7_wheres_43 v r a1 80 y5 (0 : Int64) (0 : Int32)) else some (((-9223372036854775808) : Int64))) else some (((-9223372036854775808) : Int64)))
set_option maxHeartbeats 4000000 in
set_option maxRecDepth 100000 in
theorem c_X7_wheres (l : Launch) (D : va_G) (cy : Nat → ClassId) (A : Nat → Nat) (X : va_W) (A0 : Nat → Prop) (v : Nat → Int32) (r : Nat → Nat → Int32) (a1 : Int32) (res : Int64) (hres : f_X7_wheres v r a1 = some res) : Met l yX7_wheres wsX7_wheres rm_X7_wheres (va_Pc [.ref (A 0), .int a1] (GW D (tyC cy) (pcC cy A v r ++ X) A0)) (QR (.long res)) 0 0 (fun _ => False) := by
  refine Met.ofW (cc := cX7_wheres) (maxL := 6) (ret := (some .long)) (by decide) rfl ?_
  intro p e s m args below meth c s₁ B hml hv
  obtain ⟨hargs, hP, hK, hD0, hN⟩ := hv
  have hx := B.exec
  have hb := B.bytes
  have hr := B.returns
  have hts := atoms_spec (ws := wsX7_wheres) B.pre
  have hown : s.vm.findClass RX7 = some m.cls := findClass_of_methodNamed B.named
  have hlocks := B.notSynchronized
  have hI : IW D (pcC cy A v r ++ X) A0 s.heap s.heap [] := ⟨hP, hD0, va_S.rf⟩
  have S : CallFix p m c cX7_wheres 6 s args wsX7_wheres RX7 := ⟨hx, hb, hml, hown, hts⟩
  have in1 : ∀ w ∈ wsX10, w ∈ wsX7_wheres := fun _ h => List.mem_cons_of_mem _ (List.mem_append_left _ (List.mem_append_left _ (List.mem_append_right _ h)))
  have in7 : ∀ w ∈ wsX70, w ∈ wsX7_wheres := fun _ h => List.mem_cons_of_mem _ (List.mem_append_left _ (List.mem_append_left _ (List.mem_append_left _ (List.mem_append_right _ h))))
  have hl := lv_entry ([.ref (A 0), .int a1]) (n := 6) (Nat.le_of_ble_eq_true rfl)
  have hE : entryFrame m args 6 = F0 m 0 ((lg_sl ([.ref (A 0), .int a1]) ++ List.replicate (6 - (lg_sl ([.ref (A 0), .int a1])).length) Slot.unset).toArray) [] := by rw [hargs]; exact lg_entry_eq m [.ref (A 0), .int a1] 6
  rw [hE]
  generalize (lg_sl ([.ref (A 0), .int a1]) ++ List.replicate (6 - (lg_sl ([.ref (A 0), .int a1])).length) Slot.unset).toArray = ls at hl ⊢
  have hl : lv_has ls 6 [(0, .ref (A 0)), (1, .int a1)] := hl
  unfold f_X7_wheres at hres
  refine lv_iload_n hx hb dX7_wheres_0 rfl (lv_at hl 1 rfl) ?_
  refine lv_iconst (v := 0) hx hb dX7_wheres_1 (by decide) ?_
  refine lv_iconst (v := 1) hx hb dX7_wheres_2 (by decide) ?_
  refine pu_s S (c_X7_within l a1 (0 : Int32) (1 : Int32) _ rfl) (va_cwS 3 hts gX7_wheres_X7_within rfl rfl rfl (by decide +kernel) ⟨Nat.le_of_ble_eq_true rfl, Nat.le_of_ble_eq_true rfl⟩) hN rfl hl.1 rfl (Nat.le_of_ble_eq_true rfl) dX7_wheres_3 ⟨Nat.zero_le _, Nat.zero_le _⟩ ?_
  refine lv_if_eq (tgt := 19) hx hb dX7_wheres_6 (by decide) (fun c2 => ?_) (fun c2 => ?_)
  · replace hres := (if_neg (bI_f c2)).symm.trans hres
    refine lv_ldc2 hx hb hown (hts (.constantLong RX7 187 (-9223372036854775808)) (by decide +kernel)) dX7_wheres_19 ?_
    obtain rfl := Option.some.inj hres
    exact W.lret hx hb hr (fun t ht hW => ⟨rfl, ht⟩) (fun _ h => absurd h List.not_mem_nil) dX7_wheres_22
  · replace hres := (if_pos (bI_t c2)).symm.trans hres
    refine lv_aload_n hx hb dX7_wheres_9 rfl (lv_at hl 0 rfl) ?_
    refine gC_X7_house hx hb hts in7 hown hK hI (hts (.fieldLink RX7 12 "TrickHouse" "house" "LTrickHouse$House;") (by decide +kernel)) dX7_wheres_10 ?_
    refine ro_v S (c_X1_stands l D cy A X A0 v r _ rfl) (cwV 0 hts gX7_wheres_X1_stands rfl rfl rfl (by decide +kernel) ⟨Nat.le_of_ble_eq_true rfl, Nat.le_of_ble_eq_true rfl⟩) hI hK hN (ci := 1) rfl (atC_1) rfl rfl hl.1 rfl (Nat.le_of_ble_eq_true rfl) dX7_wheres_13 ⟨Nat.zero_le _, Nat.zero_le _⟩ ?_
    refine lv_if_ne (tgt := 23) hx hb dX7_wheres_16 (by decide) (fun c4 => ?_) (fun c4 => ?_)
    · replace hres := (if_pos (bI_t c4)).symm.trans hres
      refine lv_aload_n hx hb dX7_wheres_23 rfl (lv_at hl 0 rfl) ?_
      refine gC_X7_house hx hb hts in7 hown hK hI (hts (.fieldLink RX7 12 "TrickHouse" "house" "LTrickHouse$House;") (by decide +kernel)) dX7_wheres_24 ?_
      refine lv_aload_n hx hb dX7_wheres_27 rfl (lv_at hl 0 rfl) ?_
      refine gC_X7_house hx hb hts in7 hown hK hI (hts (.fieldLink RX7 12 "TrickHouse" "house" "LTrickHouse$House;") (by decide +kernel)) dX7_wheres_28 ?_
      refine gC_X1_present hx hb hts in1 hown hK hI (hts (.fieldLink RX7 111 "TrickHouse$House" "present" "I") (by decide +kernel)) dX7_wheres_31 ?_
      obtain ⟨y5, e5, hres⟩ := bd hres
      refine ro_v S (c_X1_laughOf l D cy A X A0 v r (v 5) y5 e5) (cwV 1 hts gX7_wheres_X1_laughOf rfl rfl rfl (by decide +kernel) ⟨Nat.le_of_ble_eq_true rfl, Nat.le_of_ble_eq_true rfl⟩) hI hK hN (ci := 1) rfl (atC_1) rfl rfl hl.1 rfl (Nat.le_of_ble_eq_true rfl) dX7_wheres_34 ⟨Nat.zero_le _, Nat.zero_le _⟩ ?_
      refine lv_istore_n (lv' := [(2, .int y5), (0, .ref (A 0)), (1, .int a1)]) hx hb dX7_wheres_37 rfl hl (by decide) rfl (fun ls hl => ?_)
      refine lv_lconst (v := 0) hx hb dX7_wheres_38 (by decide) ?_
      refine lv_lstore_n (lv' := [(3, .long (0 : Int64)), (2, .int y5), (0, .ref (A 0)), (1, .int a1)]) hx hb dX7_wheres_39 rfl hl (by decide) rfl (fun ls hl => ?_)
      refine lv_iconst (v := 0) hx hb dX7_wheres_40 (by decide) ?_
      refine lv_istore (lv' := [(5, .int 0), (3, .long (0 : Int64)), (2, .int y5), (0, .ref (A 0)), (1, .int a1)]) hx hb dX7_wheres_41 hl (by decide) rfl (fun ls hl => ?_)
      have w43 : ∀ (n43 : Nat) (x2 : Int32) (x3 : Int64) (x5 : Int32), f_X7_wheres_43 v r a1 n43 x2 x3 x5 = some res → ∀ ls : Array Slot, lv_has ls 6 [(2, .int x2), (3, .long x3), (5, .int x5), (0, .ref (A 0)), (1, .int a1)] → W p l e (headSpec wsX7_wheres rm_X7_wheres).room s m args below meth c s.heap [] 0 0 (MQ below (QR (.long res)) args s 0 0 (fun _ => False)) (F0 m 43 ls []) := by
        intro n43
        induction n43 with
        | zero =>
          intro x2 x3 x5  hres
          have hres : (none : Option Int64) = some res := hres
          cases hres
        | succ n43 ih43 =>
          intro x2 x3 x5  hres ls hl
          replace hres := (f_X7_wheres_43_s v r a1 n43 x2 x3 x5).symm.trans hres
          refine lv_iload hx hb dX7_wheres_43 (lv_at hl 2 rfl) ?_
          refine lv_bipush (v := 32) hx hb dX7_wheres_45 (by decide) ?_
          refine lv_icmp_ge (tgt := 81) hx hb dX7_wheres_47 (by decide) (fun c6 => ?_) (fun c6 => ?_)
          · replace hres := (if_pos c6).symm.trans hres
            refine lv_lload_n hx hb dX7_wheres_81 rfl (lv_at hl 1 rfl) ?_
            obtain rfl := Option.some.inj hres
            exact W.lret hx hb hr (fun t ht hW => ⟨rfl, ht⟩) (fun _ h => absurd h List.not_mem_nil) dX7_wheres_82
          · replace hres := (if_neg c6).symm.trans hres
            refine lv_aload_n hx hb dX7_wheres_50 rfl (lv_at hl 3 rfl) ?_
            refine gC_X7_readings hx hb hts in7 hown hK hI (hts (.fieldLink RX7 21 "TrickHouse" "readings" "LTrickHouse$Readings;") (by decide +kernel)) dX7_wheres_51 ?_
            refine lv_bipush (v := 32) hx hb dX7_wheres_54 (by decide) ?_
            refine lv_iload_n hx hb dX7_wheres_56 rfl (lv_at hl 4 rfl) ?_
            refine lv_imul hx hb dX7_wheres_57 ?_
            refine lv_iload hx hb dX7_wheres_58 (lv_at hl 2 rfl) ?_
            refine lv_iadd hx hb dX7_wheres_60 ?_
            refine lv_iload_n hx hb dX7_wheres_61 rfl (lv_at hl 0 rfl) ?_
            obtain ⟨y7, e7, hres⟩ := bd hres
            refine ro_v S (c_X3_allAreSo l D cy A X A0 v r ((32 * a1) + x5) x2 y7 e7) (cwV 2 hts gX7_wheres_X3_allAreSo rfl rfl rfl (by decide +kernel) ⟨Nat.le_of_ble_eq_true rfl, Nat.le_of_ble_eq_true rfl⟩) hI hK hN (ci := 3) rfl (atC_4) rfl rfl hl.1 rfl (Nat.le_of_ble_eq_true rfl) dX7_wheres_62 ⟨Nat.zero_le _, Nat.zero_le _⟩ ?_
            refine lv_if_eq (tgt := 75) hx hb dX7_wheres_65 (by decide) (fun c8 => ?_) (fun c8 => ?_)
            · replace hres := (if_neg (bI_f c8)).symm.trans hres
              refine lv_iinc (v := (x5 + 1)) (lv' := [(5, .int (x5 + 1)), (2, .int x2), (3, .long x3), (0, .ref (A 0)), (1, .int a1)]) hx hb dX7_wheres_75 hl (k := 2) rfl rfl (by decide) rfl (fun ls hl => ?_)
              refine lv_goto (tgt := 43) hx hb dX7_wheres_78 (by decide) ?_
              exact ih43 x2 x3 (x5 + 1) hres ls (lv_sub hl [1, 2, 0, 3, 4] rfl)
            · replace hres := (if_pos (bI_t c8)).symm.trans hres
              refine lv_lload_n hx hb dX7_wheres_68 rfl (lv_at hl 1 rfl) ?_
              refine lv_lconst (v := 1) hx hb dX7_wheres_69 (by decide) ?_
              refine lv_iload hx hb dX7_wheres_70 (lv_at hl 2 rfl) ?_
              refine lv_lshl hx hb dX7_wheres_72 rfl ?_
              refine lv_lor hx hb dX7_wheres_73 ?_
              refine lv_lstore_n (lv' := [(3, .long (x3 ||| ((1 : Int64) <<< (x5.toInt64 &&& 63)))), (2, .int x2), (5, .int x5), (0, .ref (A 0)), (1, .int a1)]) hx hb dX7_wheres_74 rfl hl (by decide) rfl (fun ls hl => ?_)
              refine lv_iinc (v := (x5 + 1)) (lv' := [(5, .int (x5 + 1)), (3, .long (x3 ||| ((1 : Int64) <<< (x5.toInt64 &&& 63)))), (2, .int x2), (0, .ref (A 0)), (1, .int a1)]) hx hb dX7_wheres_75 hl (k := 2) rfl rfl (by decide) rfl (fun ls hl => ?_)
              refine lv_goto (tgt := 43) hx hb dX7_wheres_78 (by decide) ?_
              exact ih43 x2 (x3 ||| ((1 : Int64) <<< (x5.toInt64 &&& 63))) (x5 + 1) hres ls (lv_sub hl [2, 1, 0, 3, 4] rfl)
      exact w43 80 y5 (0 : Int64) (0 : Int32) hres ls (lv_sub hl [2, 1, 0, 3, 4] rfl)
    · replace hres := (if_neg (bI_f c4)).symm.trans hres
      refine lv_ldc2 hx hb hown (hts (.constantLong RX7 187 (-9223372036854775808)) (by decide +kernel)) dX7_wheres_19 ?_
      obtain rfl := Option.some.inj hres
      exact W.lret hx hb hr (fun t ht hW => ⟨rfl, ht⟩) (fun _ h => absurd h List.not_mem_nil) dX7_wheres_22
abbrev rm_X7_odds : Room := { frames := 6, cells := 0, slots := 0, locals := 135 }
def f_X7_odds_64 (v : Nat → Int32) (r : Nat → Nat → Int32) (a1 : Int32) (a2 : Int32) : Nat → Int32 → Int32 → Int32 → Option Int64
  | 0, _, _, _ => none
  | n64 + 1, x3, x4, x5 => (if 6 ≤ x5 then (if a2 = 0 then some (x3.toInt64) else some (x4.toInt64)) else (if x4 ≤ 1 then (if a2 = 0 then some (x3.toInt64) else some (x4.toInt64)) else (if (x3 &&& 1) = 0 then f_X7_odds_64 v r a1 a2 n64 (x3 >>> ((1 : Int32) &&& 31)) (x4 >>> ((1 : Int32) &&& 31)) (x5 + 1) else (if a2 = 0 then some (x3.toInt64) else some (x4.toInt64)))))
theorem f_X7_odds_64_s (v : Nat → Int32) (r : Nat → Nat → Int32) (a1 : Int32) (a2 : Int32) (n64 : Nat) (x3 : Int32) (x4 : Int32) (x5 : Int32) : f_X7_odds_64 v r a1 a2 (n64 + 1) x3 x4 x5 = (if 6 ≤ x5 then (if a2 = 0 then some (x3.toInt64) else some (x4.toInt64)) else (if x4 ≤ 1 then (if a2 = 0 then some (x3.toInt64) else some (x4.toInt64)) else (if (x3 &&& 1) = 0 then f_X7_odds_64 v r a1 a2 n64 (x3 >>> ((1 : Int32) &&& 31)) (x4 >>> ((1 : Int32) &&& 31)) (x5 + 1) else (if a2 = 0 then some (x3.toInt64) else some (x4.toInt64))))) := rfl
def f_X7_odds (v : Nat → Int32) (r : Nat → Nat → Int32) (a1 : Int32) (a2 : Int32) : Option Int64 := (if (f_X1_isArticle v r a1) = true then (if (f_X7_within a2 (0 : Int32) (1 : Int32)) = true then (if (f_X7_has (v 5) a1) = true then (f_X1_setsThatLeave v r a1).bind (fun y7 => f_X7_odds_64 v r a1 a2 80 y7 ((1 : Int32) <<< ((f_J6_bitCount_0f7a4 (v 5)) &&& 31)) (0 : Int32)) else some (((-9223372036854775808) : Int64))) else some (((-9223372036854775808) : Int64))) else some (((-9223372036854775808) : Int64)))
set_option maxHeartbeats 4000000 in
set_option maxRecDepth 100000 in
theorem c_X7_odds (l : Launch) (D : va_G) (cy : Nat → ClassId) (A : Nat → Nat) (X : va_W) (A0 : Nat → Prop) (v : Nat → Int32) (r : Nat → Nat → Int32) (a1 : Int32) (a2 : Int32) (res : Int64) (hres : f_X7_odds v r a1 a2 = some res) : Met l yX7_odds wsX7_odds rm_X7_odds (va_Pc [.ref (A 0), .int a1, .int a2] (GW D (tyC cy) (pcC cy A v r ++ X) A0)) (QR (.long res)) 0 0 (fun _ => False) := by
  refine Met.ofW (cc := cX7_odds) (maxL := 6) (ret := (some .long)) (by decide) rfl ?_
  intro p e s m args below meth c s₁ B hml hv
  obtain ⟨hargs, hP, hK, hD0, hN⟩ := hv
  have hx := B.exec
  have hb := B.bytes
  have hr := B.returns
  have hts := atoms_spec (ws := wsX7_odds) B.pre
  have hown : s.vm.findClass RX7 = some m.cls := findClass_of_methodNamed B.named
  have hlocks := B.notSynchronized
  have hI : IW D (pcC cy A v r ++ X) A0 s.heap s.heap [] := ⟨hP, hD0, va_S.rf⟩
  have S : CallFix p m c cX7_odds 6 s args wsX7_odds RX7 := ⟨hx, hb, hml, hown, hts⟩
  have in1 : ∀ w ∈ wsX10, w ∈ wsX7_odds := fun _ h => List.mem_cons_of_mem _ (List.mem_append_left _ (List.mem_append_right _ h))
  have in7 : ∀ w ∈ wsX70, w ∈ wsX7_odds := fun _ h => List.mem_cons_of_mem _ (List.mem_append_left _ (List.mem_append_left _ (List.mem_append_right _ h)))
  have hl := lv_entry ([.ref (A 0), .int a1, .int a2]) (n := 6) (Nat.le_of_ble_eq_true rfl)
  have hE : entryFrame m args 6 = F0 m 0 ((lg_sl ([.ref (A 0), .int a1, .int a2]) ++ List.replicate (6 - (lg_sl ([.ref (A 0), .int a1, .int a2])).length) Slot.unset).toArray) [] := by rw [hargs]; exact lg_entry_eq m [.ref (A 0), .int a1, .int a2] 6
  rw [hE]
  generalize (lg_sl ([.ref (A 0), .int a1, .int a2]) ++ List.replicate (6 - (lg_sl ([.ref (A 0), .int a1, .int a2])).length) Slot.unset).toArray = ls at hl ⊢
  have hl : lv_has ls 6 [(0, .ref (A 0)), (1, .int a1), (2, .int a2)] := hl
  unfold f_X7_odds at hres
  refine lv_aload_n hx hb dX7_odds_0 rfl (lv_at hl 0 rfl) ?_
  refine gC_X7_house hx hb hts in7 hown hK hI (hts (.fieldLink RX7 12 "TrickHouse" "house" "LTrickHouse$House;") (by decide +kernel)) dX7_odds_1 ?_
  refine lv_iload_n hx hb dX7_odds_4 rfl (lv_at hl 1 rfl) ?_
  refine ro_v S (c_X1_isArticle l D cy A X A0 v r a1 _ rfl) (cwV 1 hts gX7_odds_X1_isArticle rfl rfl rfl (by decide +kernel) ⟨Nat.le_of_ble_eq_true rfl, Nat.le_of_ble_eq_true rfl⟩) hI hK hN (ci := 1) rfl (atC_1) rfl rfl hl.1 rfl (Nat.le_of_ble_eq_true rfl) dX7_odds_5 ⟨Nat.zero_le _, Nat.zero_le _⟩ ?_
  refine lv_if_eq (tgt := 34) hx hb dX7_odds_8 (by decide) (fun c2 => ?_) (fun c2 => ?_)
  · replace hres := (if_neg (bI_f c2)).symm.trans hres
    refine lv_ldc2 hx hb hown (hts (.constantLong RX7 187 (-9223372036854775808)) (by decide +kernel)) dX7_odds_34 ?_
    obtain rfl := Option.some.inj hres
    exact W.lret hx hb hr (fun t ht hW => ⟨rfl, ht⟩) (fun _ h => absurd h List.not_mem_nil) dX7_odds_37
  · replace hres := (if_pos (bI_t c2)).symm.trans hres
    refine lv_iload_n hx hb dX7_odds_11 rfl (lv_at hl 2 rfl) ?_
    refine lv_iconst (v := 0) hx hb dX7_odds_12 (by decide) ?_
    refine lv_iconst (v := 1) hx hb dX7_odds_13 (by decide) ?_
    refine pu_s S (c_X7_within l a2 (0 : Int32) (1 : Int32) _ rfl) (va_cwS 3 hts gX7_odds_X7_within rfl rfl rfl (by decide +kernel) ⟨Nat.le_of_ble_eq_true rfl, Nat.le_of_ble_eq_true rfl⟩) hN rfl hl.1 rfl (Nat.le_of_ble_eq_true rfl) dX7_odds_14 ⟨Nat.zero_le _, Nat.zero_le _⟩ ?_
    refine lv_if_eq (tgt := 34) hx hb dX7_odds_17 (by decide) (fun c4 => ?_) (fun c4 => ?_)
    · replace hres := (if_neg (bI_f c4)).symm.trans hres
      refine lv_ldc2 hx hb hown (hts (.constantLong RX7 187 (-9223372036854775808)) (by decide +kernel)) dX7_odds_34 ?_
      obtain rfl := Option.some.inj hres
      exact W.lret hx hb hr (fun t ht hW => ⟨rfl, ht⟩) (fun _ h => absurd h List.not_mem_nil) dX7_odds_37
    · replace hres := (if_pos (bI_t c4)).symm.trans hres
      refine lv_aload_n hx hb dX7_odds_20 rfl (lv_at hl 0 rfl) ?_
      refine gC_X7_house hx hb hts in7 hown hK hI (hts (.fieldLink RX7 12 "TrickHouse" "house" "LTrickHouse$House;") (by decide +kernel)) dX7_odds_21 ?_
      refine gC_X1_present hx hb hts in1 hown hK hI (hts (.fieldLink RX7 111 "TrickHouse$House" "present" "I") (by decide +kernel)) dX7_odds_24 ?_
      refine lv_iload_n hx hb dX7_odds_27 rfl (lv_at hl 1 rfl) ?_
      refine pu_s S (c_X7_has l (v 5) a1 _ rfl) (va_cwS 2 hts gX7_odds_X7_has rfl rfl rfl (by decide +kernel) ⟨Nat.le_of_ble_eq_true rfl, Nat.le_of_ble_eq_true rfl⟩) hN rfl hl.1 rfl (Nat.le_of_ble_eq_true rfl) dX7_odds_28 ⟨Nat.zero_le _, Nat.zero_le _⟩ ?_
      refine lv_if_ne (tgt := 38) hx hb dX7_odds_31 (by decide) (fun c6 => ?_) (fun c6 => ?_)
      · replace hres := (if_pos (bI_t c6)).symm.trans hres
        refine lv_aload_n hx hb dX7_odds_38 rfl (lv_at hl 0 rfl) ?_
        refine gC_X7_house hx hb hts in7 hown hK hI (hts (.fieldLink RX7 12 "TrickHouse" "house" "LTrickHouse$House;") (by decide +kernel)) dX7_odds_39 ?_
        refine lv_iload_n hx hb dX7_odds_42 rfl (lv_at hl 1 rfl) ?_
        obtain ⟨y7, e7, hres⟩ := bd hres
        refine ro_v S (c_X1_setsThatLeave l D cy A X A0 v r a1 y7 e7) (cwV 1 hts gX7_odds_X1_setsThatLeave rfl rfl rfl (by decide +kernel) ⟨Nat.le_of_ble_eq_true rfl, Nat.le_of_ble_eq_true rfl⟩) hI hK hN (ci := 1) rfl (atC_1) rfl rfl hl.1 rfl (Nat.le_of_ble_eq_true rfl) dX7_odds_43 ⟨Nat.zero_le _, Nat.zero_le _⟩ ?_
        refine lv_istore_n (lv' := [(3, .int y7), (0, .ref (A 0)), (1, .int a1), (2, .int a2)]) hx hb dX7_odds_46 rfl hl (by decide) rfl (fun ls hl => ?_)
        refine lv_iconst (v := 1) hx hb dX7_odds_47 (by decide) ?_
        refine lv_aload_n hx hb dX7_odds_48 rfl (lv_at hl 1 rfl) ?_
        refine gC_X7_house hx hb hts in7 hown hK hI (hts (.fieldLink RX7 12 "TrickHouse" "house" "LTrickHouse$House;") (by decide +kernel)) dX7_odds_49 ?_
        refine gC_X1_present hx hb hts in1 hown hK hI (hts (.fieldLink RX7 111 "TrickHouse$House" "present" "I") (by decide +kernel)) dX7_odds_52 ?_
        refine pu_s S (c_J6_bitCount_0f7a4 l (v 5) _ rfl) (va_cwS 1 hts gX7_odds_J6_bitCount_0f7a4 rfl rfl rfl (by decide +kernel) ⟨Nat.le_of_ble_eq_true rfl, Nat.le_of_ble_eq_true rfl⟩) hN rfl hl.1 rfl (Nat.le_of_ble_eq_true rfl) dX7_odds_55 ⟨Nat.zero_le _, Nat.zero_le _⟩ ?_
        refine lv_ishl hx hb dX7_odds_58 ?_
        refine lv_istore (lv' := [(4, .int ((1 : Int32) <<< ((f_J6_bitCount_0f7a4 (v 5)) &&& 31))), (3, .int y7), (0, .ref (A 0)), (1, .int a1), (2, .int a2)]) hx hb dX7_odds_59 hl (by decide) rfl (fun ls hl => ?_)
        refine lv_iconst (v := 0) hx hb dX7_odds_61 (by decide) ?_
        refine lv_istore (lv' := [(5, .int 0), (4, .int ((1 : Int32) <<< ((f_J6_bitCount_0f7a4 (v 5)) &&& 31))), (3, .int y7), (0, .ref (A 0)), (1, .int a1), (2, .int a2)]) hx hb dX7_odds_62 hl (by decide) rfl (fun ls hl => ?_)
        have w64 : ∀ (n64 : Nat) (x3 : Int32) (x4 : Int32) (x5 : Int32), f_X7_odds_64 v r a1 a2 n64 x3 x4 x5 = some res → ∀ ls : Array Slot, lv_has ls 6 [(3, .int x3), (4, .int x4), (5, .int x5), (2, .int a2)] → W p l e (headSpec wsX7_odds rm_X7_odds).room s m args below meth c s.heap [] 0 0 (MQ below (QR (.long res)) args s 0 0 (fun _ => False)) (F0 m 64 ls []) := by
          intro n64
          induction n64 with
          | zero =>
            intro x3 x4 x5  hres
            have hres : (none : Option Int64) = some res := hres
            cases hres
          | succ n64 ih64 =>
            intro x3 x4 x5  hres ls hl
            replace hres := (f_X7_odds_64_s v r a1 a2 n64 x3 x4 x5).symm.trans hres
            refine lv_iload hx hb dX7_odds_64 (lv_at hl 2 rfl) ?_
            refine lv_bipush (v := 6) hx hb dX7_odds_66 (by decide) ?_
            refine lv_icmp_ge (tgt := 99) hx hb dX7_odds_68 (by decide) (fun c9 => ?_) (fun c9 => ?_)
            · replace hres := (if_pos c9).symm.trans hres
              refine lv_iload_n hx hb dX7_odds_99 rfl (lv_at hl 3 rfl) ?_
              refine lv_if_ne (tgt := 108) hx hb dX7_odds_100 (by decide) (fun c10 => ?_) (fun c10 => ?_)
              · replace hres := (if_neg c10).symm.trans hres
                refine lv_iload hx hb dX7_odds_108 (lv_at hl 1 rfl) ?_
                refine lv_i2l hx hb dX7_odds_110 rfl ?_
                obtain rfl := Option.some.inj hres
                exact W.lret hx hb hr (fun t ht hW => ⟨rfl, ht⟩) (fun _ h => absurd h List.not_mem_nil) dX7_odds_111
              · replace hres := (if_pos c10).symm.trans hres
                refine lv_iload_n hx hb dX7_odds_103 rfl (lv_at hl 0 rfl) ?_
                refine lv_i2l hx hb dX7_odds_104 rfl ?_
                refine lv_goto (tgt := 111) hx hb dX7_odds_105 (by decide) ?_
                obtain rfl := Option.some.inj hres
                exact W.lret hx hb hr (fun t ht hW => ⟨rfl, ht⟩) (fun _ h => absurd h List.not_mem_nil) dX7_odds_111
            · replace hres := (if_neg c9).symm.trans hres
              refine lv_iload hx hb dX7_odds_71 (lv_at hl 1 rfl) ?_
              refine lv_iconst (v := 1) hx hb dX7_odds_73 (by decide) ?_
              refine lv_icmp_le (tgt := 99) hx hb dX7_odds_74 (by decide) (fun c11 => ?_) (fun c11 => ?_)
              · replace hres := (if_pos c11).symm.trans hres
                refine lv_iload_n hx hb dX7_odds_99 rfl (lv_at hl 3 rfl) ?_
                refine lv_if_ne (tgt := 108) hx hb dX7_odds_100 (by decide) (fun c12 => ?_) (fun c12 => ?_)
                · replace hres := (if_neg c12).symm.trans hres
                  refine lv_iload hx hb dX7_odds_108 (lv_at hl 1 rfl) ?_
                  refine lv_i2l hx hb dX7_odds_110 rfl ?_
                  obtain rfl := Option.some.inj hres
                  exact W.lret hx hb hr (fun t ht hW => ⟨rfl, ht⟩) (fun _ h => absurd h List.not_mem_nil) dX7_odds_111
                · replace hres := (if_pos c12).symm.trans hres
                  refine lv_iload_n hx hb dX7_odds_103 rfl (lv_at hl 0 rfl) ?_
                  refine lv_i2l hx hb dX7_odds_104 rfl ?_
                  refine lv_goto (tgt := 111) hx hb dX7_odds_105 (by decide) ?_
                  obtain rfl := Option.some.inj hres
                  exact W.lret hx hb hr (fun t ht hW => ⟨rfl, ht⟩) (fun _ h => absurd h List.not_mem_nil) dX7_odds_111
              · replace hres := (if_neg c11).symm.trans hres
                refine lv_iload_n hx hb dX7_odds_77 rfl (lv_at hl 0 rfl) ?_
                refine lv_iconst (v := 1) hx hb dX7_odds_78 (by decide) ?_
                refine lv_iand hx hb dX7_odds_79 ?_
                refine lv_if_ne (tgt := 99) hx hb dX7_odds_80 (by decide) (fun c13 => ?_) (fun c13 => ?_)
                · replace hres := (if_neg c13).symm.trans hres
                  refine lv_iload_n hx hb dX7_odds_99 rfl (lv_at hl 3 rfl) ?_
                  refine lv_if_ne (tgt := 108) hx hb dX7_odds_100 (by decide) (fun c14 => ?_) (fun c14 => ?_)
                  · replace hres := (if_neg c14).symm.trans hres
                    refine lv_iload hx hb dX7_odds_108 (lv_at hl 1 rfl) ?_
                    refine lv_i2l hx hb dX7_odds_110 rfl ?_
                    obtain rfl := Option.some.inj hres
                    exact W.lret hx hb hr (fun t ht hW => ⟨rfl, ht⟩) (fun _ h => absurd h List.not_mem_nil) dX7_odds_111
                  · replace hres := (if_pos c14).symm.trans hres
                    refine lv_iload_n hx hb dX7_odds_103 rfl (lv_at hl 0 rfl) ?_
                    refine lv_i2l hx hb dX7_odds_104 rfl ?_
                    refine lv_goto (tgt := 111) hx hb dX7_odds_105 (by decide) ?_
                    obtain rfl := Option.some.inj hres
                    exact W.lret hx hb hr (fun t ht hW => ⟨rfl, ht⟩) (fun _ h => absurd h List.not_mem_nil) dX7_odds_111
                · replace hres := (if_pos c13).symm.trans hres
                  refine lv_iload_n hx hb dX7_odds_83 rfl (lv_at hl 0 rfl) ?_
                  refine lv_iconst (v := 1) hx hb dX7_odds_84 (by decide) ?_
                  refine lv_ishr hx hb dX7_odds_85 ?_
                  refine lv_istore_n (lv' := [(3, .int (x3 >>> ((1 : Int32) &&& 31))), (4, .int x4), (5, .int x5), (2, .int a2)]) hx hb dX7_odds_86 rfl hl (by decide) rfl (fun ls hl => ?_)
                  refine lv_iload hx hb dX7_odds_87 (lv_at hl 1 rfl) ?_
                  refine lv_iconst (v := 1) hx hb dX7_odds_89 (by decide) ?_
                  refine lv_ishr hx hb dX7_odds_90 ?_
                  refine lv_istore (lv' := [(4, .int (x4 >>> ((1 : Int32) &&& 31))), (3, .int (x3 >>> ((1 : Int32) &&& 31))), (5, .int x5), (2, .int a2)]) hx hb dX7_odds_91 hl (by decide) rfl (fun ls hl => ?_)
                  refine lv_iinc (v := (x5 + 1)) (lv' := [(5, .int (x5 + 1)), (4, .int (x4 >>> ((1 : Int32) &&& 31))), (3, .int (x3 >>> ((1 : Int32) &&& 31))), (2, .int a2)]) hx hb dX7_odds_93 hl (k := 2) rfl rfl (by decide) rfl (fun ls hl => ?_)
                  refine lv_goto (tgt := 64) hx hb dX7_odds_96 (by decide) ?_
                  exact ih64 (x3 >>> ((1 : Int32) &&& 31)) (x4 >>> ((1 : Int32) &&& 31)) (x5 + 1) hres ls (lv_sub hl [2, 1, 0, 3] rfl)
        exact w64 80 y7 ((1 : Int32) <<< ((f_J6_bitCount_0f7a4 (v 5)) &&& 31)) (0 : Int32) hres ls (lv_sub hl [2, 1, 0, 5] rfl)
      · replace hres := (if_neg (bI_f c6)).symm.trans hres
        refine lv_ldc2 hx hb hown (hts (.constantLong RX7 187 (-9223372036854775808)) (by decide +kernel)) dX7_odds_34 ?_
        obtain rfl := Option.some.inj hres
        exact W.lret hx hb hr (fun t ht hW => ⟨rfl, ht⟩) (fun _ h => absurd h List.not_mem_nil) dX7_odds_37
abbrev rm_X7_sheet : Room := { frames := 2, cells := 0, slots := 0, locals := 47 }
def f_X7_sheet (v : Nat → Int32) (r : Nat → Nat → Int32) (a1 : Int32) (a2 : Int32) (a3 : Int32) : Option (Int32 × ST) := (if (f_X7_isSheet a1) = true then (if (f_X7_isLane a2) = true then (if a3 ≤ 60 then (if 0 ≤ a3 then if inR a1 4 = true then (f_X4_renew (upd v 1 0) r a1.toNatClampNeg a2 a3).bind (fun y8 => some (1, (y8.1, y8.2))) else none else (f_X7_failed (upd v 1 0) r (4 : Int32)).bind (fun y9 => some (y9.1, (y9.2.1, y9.2.2)))) else some ((-2), ((upd v 1 0), r))) else some ((-2), ((upd v 1 0), r))) else some ((-1), ((upd v 1 0), r)))
set_option maxHeartbeats 4000000 in
set_option maxRecDepth 100000 in
theorem c_X7_sheet (l : Launch) (D : va_G) (cy : Nat → ClassId) (A : Nat → Nat) (X : va_W) (A0 : Nat → Prop) (v : Nat → Int32) (r : Nat → Nat → Int32) (a1 : Int32) (a2 : Int32) (a3 : Int32) (res : Int32) (v2 : Nat → Int32) (r2 : Nat → Nat → Int32) (hres : f_X7_sheet v r a1 a2 a3 = some (res, (v2, r2))) : Met l yX7_sheet wsX7_sheet rm_X7_sheet (va_Pc [.ref (A 0), .int a1, .int a2, .int a3] (GW D (tyC cy) (pcC cy A v r ++ X) A0)) (QW (some (.int res)) (GW D (tyC cy) (pcC cy A v2 r2 ++ X) A0) A0) 0 0 A0 := by
  refine Met.ofW (cc := cX7_sheet) (maxL := 4) (ret := (some .int)) (by decide) rfl ?_
  intro p e s m args below meth c s₁ B hml hv
  obtain ⟨hargs, hP, hK, hD0, hN⟩ := hv
  have hx := B.exec
  have hb := B.bytes
  have hr := B.returns
  have hts := atoms_spec (ws := wsX7_sheet) B.pre
  have hown : s.vm.findClass RX7 = some m.cls := findClass_of_methodNamed B.named
  have hlocks := B.notSynchronized
  have hI : IW D (pcC cy A v r ++ X) A0 s.heap s.heap [] := ⟨hP, hD0, va_S.rf⟩
  have S : CallFix p m c cX7_sheet 4 s args wsX7_sheet RX7 := ⟨hx, hb, hml, hown, hts⟩
  have in7 : ∀ w ∈ wsX70, w ∈ wsX7_sheet := fun _ h => List.mem_cons_of_mem _ (List.mem_append_left _ (List.mem_append_right _ h))
  have hl := lv_entry ([.ref (A 0), .int a1, .int a2, .int a3]) (n := 4) (Nat.le_of_ble_eq_true rfl)
  have hE : entryFrame m args 4 = F0 m 0 ((lg_sl ([.ref (A 0), .int a1, .int a2, .int a3]) ++ List.replicate (4 - (lg_sl ([.ref (A 0), .int a1, .int a2, .int a3])).length) Slot.unset).toArray) [] := by rw [hargs]; exact lg_entry_eq m [.ref (A 0), .int a1, .int a2, .int a3] 4
  rw [hE]
  generalize (lg_sl ([.ref (A 0), .int a1, .int a2, .int a3]) ++ List.replicate (4 - (lg_sl ([.ref (A 0), .int a1, .int a2, .int a3])).length) Slot.unset).toArray = ls at hl ⊢
  have hl : lv_has ls 4 [(0, .ref (A 0)), (1, .int a1), (2, .int a2), (3, .int a3)] := hl
  unfold f_X7_sheet at hres
  refine lv_aload_n hx hb dX7_sheet_0 rfl (lv_at hl 0 rfl) ?_
  refine lv_iconst (v := 0) hx hb dX7_sheet_1 (by decide) ?_
  refine pC_X7_lastFault hx hb hts in7 hown hK hI (hts (.fieldLink RX7 52 "TrickHouse" "lastFault" "I") (by decide +kernel)) dX7_sheet_2 (fun H locs hI => ?_)
  refine lv_iload_n hx hb dX7_sheet_5 rfl (lv_at hl 1 rfl) ?_
  refine pu_s S (c_X7_isSheet l a1 _ rfl) (va_cwS 1 hts gX7_sheet_X7_isSheet rfl rfl rfl (by decide +kernel) ⟨Nat.le_of_ble_eq_true rfl, Nat.le_of_ble_eq_true rfl⟩) hN rfl hl.1 rfl (Nat.le_of_ble_eq_true rfl) dX7_sheet_6 ⟨Nat.zero_le _, Nat.zero_le _⟩ ?_
  refine lv_if_ne (tgt := 14) hx hb dX7_sheet_9 (by decide) (fun c2 => ?_) (fun c2 => ?_)
  · replace hres := (if_pos (bI_t c2)).symm.trans hres
    refine lv_iload_n hx hb dX7_sheet_14 rfl (lv_at hl 2 rfl) ?_
    refine pu_s S (c_X7_isLane l a2 _ rfl) (va_cwS 1 hts gX7_sheet_X7_isLane rfl rfl rfl (by decide +kernel) ⟨Nat.le_of_ble_eq_true rfl, Nat.le_of_ble_eq_true rfl⟩) hN rfl hl.1 rfl (Nat.le_of_ble_eq_true rfl) dX7_sheet_15 ⟨Nat.zero_le _, Nat.zero_le _⟩ ?_
    refine lv_if_eq (tgt := 27) hx hb dX7_sheet_18 (by decide) (fun c4 => ?_) (fun c4 => ?_)
    · replace hres := (if_neg (bI_f c4)).symm.trans hres
      refine lv_bipush (v := (-2)) hx hb dX7_sheet_27 (by decide) ?_
      obtain ⟨rfl, rfl, rfl⟩ := pr3 hres
      exact W.iret hx hb hr (fun t ht hW => ⟨rfl, ⟨by rw [ht]; exact hI.1, va_K.moved hW.alike hK, hI.2.1, NW.warm hW hN⟩, hI.2.2.F ht⟩) hI.2.2.2.2 dX7_sheet_29
    · replace hres := (if_pos (bI_t c4)).symm.trans hres
      refine lv_iload_n hx hb dX7_sheet_21 rfl (lv_at hl 3 rfl) ?_
      refine lv_bipush (v := 60) hx hb dX7_sheet_22 (by decide) ?_
      refine lv_icmp_le (tgt := 30) hx hb dX7_sheet_24 (by decide) (fun c5 => ?_) (fun c5 => ?_)
      · replace hres := (if_pos c5).symm.trans hres
        refine lv_iload_n hx hb dX7_sheet_30 rfl (lv_at hl 3 rfl) ?_
        refine lv_if_ge (tgt := 40) hx hb dX7_sheet_31 (by decide) (fun c6 => ?_) (fun c6 => ?_)
        · replace hres := (if_pos c6).symm.trans hres
          refine lv_aload_n hx hb dX7_sheet_40 rfl (lv_at hl 0 rfl) ?_
          refine gC_X7_sheets hx hb hts in7 hown hK hI (hts (.fieldLink RX7 43 "TrickHouse" "sheets" "[LTrickHouse$Sheet;") (by decide +kernel)) dX7_sheet_41 ?_
          refine lv_iload_n hx hb dX7_sheet_44 rfl (lv_at hl 1 rfl) ?_
          obtain ⟨g7, hres⟩ := gd hres
          refine th_ald (f := fun k => A (19 + k)) hx hb hK hI 12 2 rfl rfl g7 dX7_sheet_45 ?_
          refine lv_iload_n hx hb dX7_sheet_46 rfl (lv_at hl 2 rfl) ?_
          refine lv_iload_n hx hb dX7_sheet_47 rfl (lv_at hl 3 rfl) ?_
          obtain ⟨y8, e8, hres⟩ := bd hres
          refine rw_v S (c_X4_renew l D cy A X A0 (upd v 1 0) r a1.toNatClampNeg (inR_lt g7) a2 a3 y8.1 y8.2 e8) (cwV 2 hts gX7_sheet_X4_renew rfl rfl rfl (by decide +kernel) ⟨Nat.le_of_ble_eq_true rfl, Nat.le_of_ble_eq_true rfl⟩) hI hK hN (ci := 4) rfl (atC_sh (inR_lt g7)) rfl rfl hl.1 rfl (Nat.le_of_ble_eq_true rfl) dX7_sheet_48 ⟨Nat.zero_le _, Nat.zero_le _⟩ (fun H locs hI => ?_)
          refine lv_iconst (v := 1) hx hb dX7_sheet_51 (by decide) ?_
          obtain ⟨rfl, rfl, rfl⟩ := pr3 hres
          exact W.iret hx hb hr (fun t ht hW => ⟨rfl, ⟨by rw [ht]; exact hI.1, va_K.moved hW.alike hK, hI.2.1, NW.warm hW hN⟩, hI.2.2.F ht⟩) hI.2.2.2.2 dX7_sheet_52
        · replace hres := (if_neg c6).symm.trans hres
          refine lv_aload_n hx hb dX7_sheet_34 rfl (lv_at hl 0 rfl) ?_
          refine lv_iconst (v := 4) hx hb dX7_sheet_35 (by decide) ?_
          obtain ⟨y9, e9, hres⟩ := bd hres
          refine rw_v S (c_X7_failed l D cy A X A0 (upd v 1 0) r (4 : Int32) y9.1 y9.2.1 y9.2.2 e9) (cwV 1 hts gX7_sheet_X7_failed rfl rfl rfl (by decide +kernel) ⟨Nat.le_of_ble_eq_true rfl, Nat.le_of_ble_eq_true rfl⟩) hI hK hN (ci := 6) rfl (atC_0) rfl rfl hl.1 rfl (Nat.le_of_ble_eq_true rfl) dX7_sheet_36 ⟨Nat.zero_le _, Nat.zero_le _⟩ (fun H locs hI => ?_)
          obtain ⟨rfl, rfl, rfl⟩ := pr3 hres
          exact W.iret hx hb hr (fun t ht hW => ⟨rfl, ⟨by rw [ht]; exact hI.1, va_K.moved hW.alike hK, hI.2.1, NW.warm hW hN⟩, hI.2.2.F ht⟩) hI.2.2.2.2 dX7_sheet_39
      · replace hres := (if_neg c5).symm.trans hres
        refine lv_bipush (v := (-2)) hx hb dX7_sheet_27 (by decide) ?_
        obtain ⟨rfl, rfl, rfl⟩ := pr3 hres
        exact W.iret hx hb hr (fun t ht hW => ⟨rfl, ⟨by rw [ht]; exact hI.1, va_K.moved hW.alike hK, hI.2.1, NW.warm hW hN⟩, hI.2.2.F ht⟩) hI.2.2.2.2 dX7_sheet_29
  · replace hres := (if_neg (bI_f c2)).symm.trans hres
    refine lv_iconst (v := (-1)) hx hb dX7_sheet_12 (by decide) ?_
    obtain ⟨rfl, rfl, rfl⟩ := pr3 hres
    exact W.iret hx hb hr (fun t ht hW => ⟨rfl, ⟨by rw [ht]; exact hI.1, va_K.moved hW.alike hK, hI.2.1, NW.warm hW hN⟩, hI.2.2.F ht⟩) hI.2.2.2.2 dX7_sheet_13
abbrev rm_X7_lose : Room := { frames := 2, cells := 0, slots := 0, locals := 42 }
def f_X7_lose (v : Nat → Int32) (r : Nat → Nat → Int32) (a1 : Int32) : Option (Int32 × ST) := (if (f_X7_isSheet a1) = true then if inR a1 4 = true then (if (f_X4_hasNothing v r a1.toNatClampNeg) = true then some (0, (v, r)) else if inR a1 4 = true then (f_X4_clear v r a1.toNatClampNeg).bind (fun y7 => some (1, (y7.1, y7.2))) else none) else none else some ((-1), (v, r)))
set_option maxHeartbeats 4000000 in
set_option maxRecDepth 100000 in
theorem c_X7_lose (l : Launch) (D : va_G) (cy : Nat → ClassId) (A : Nat → Nat) (X : va_W) (A0 : Nat → Prop) (v : Nat → Int32) (r : Nat → Nat → Int32) (a1 : Int32) (res : Int32) (v2 : Nat → Int32) (r2 : Nat → Nat → Int32) (hres : f_X7_lose v r a1 = some (res, (v2, r2))) : Met l yX7_lose wsX7_lose rm_X7_lose (va_Pc [.ref (A 0), .int a1] (GW D (tyC cy) (pcC cy A v r ++ X) A0)) (QW (some (.int res)) (GW D (tyC cy) (pcC cy A v2 r2 ++ X) A0) A0) 0 0 A0 := by
  refine Met.ofW (cc := cX7_lose) (maxL := 2) (ret := (some .int)) (by decide) rfl ?_
  intro p e s m args below meth c s₁ B hml hv
  obtain ⟨hargs, hP, hK, hD0, hN⟩ := hv
  have hx := B.exec
  have hb := B.bytes
  have hr := B.returns
  have hts := atoms_spec (ws := wsX7_lose) B.pre
  have hown : s.vm.findClass RX7 = some m.cls := findClass_of_methodNamed B.named
  have hlocks := B.notSynchronized
  have hI : IW D (pcC cy A v r ++ X) A0 s.heap s.heap [] := ⟨hP, hD0, va_S.rf⟩
  have S : CallFix p m c cX7_lose 2 s args wsX7_lose RX7 := ⟨hx, hb, hml, hown, hts⟩
  have in7 : ∀ w ∈ wsX70, w ∈ wsX7_lose := fun _ h => List.mem_cons_of_mem _ (List.mem_append_left _ (List.mem_append_right _ h))
  have hl := lv_entry ([.ref (A 0), .int a1]) (n := 2) (Nat.le_of_ble_eq_true rfl)
  have hE : entryFrame m args 2 = F0 m 0 ((lg_sl ([.ref (A 0), .int a1]) ++ List.replicate (2 - (lg_sl ([.ref (A 0), .int a1])).length) Slot.unset).toArray) [] := by rw [hargs]; exact lg_entry_eq m [.ref (A 0), .int a1] 2
  rw [hE]
  generalize (lg_sl ([.ref (A 0), .int a1]) ++ List.replicate (2 - (lg_sl ([.ref (A 0), .int a1])).length) Slot.unset).toArray = ls at hl ⊢
  have hl : lv_has ls 2 [(0, .ref (A 0)), (1, .int a1)] := hl
  unfold f_X7_lose at hres
  refine lv_iload_n hx hb dX7_lose_0 rfl (lv_at hl 1 rfl) ?_
  refine pu_s S (c_X7_isSheet l a1 _ rfl) (va_cwS 1 hts gX7_lose_X7_isSheet rfl rfl rfl (by decide +kernel) ⟨Nat.le_of_ble_eq_true rfl, Nat.le_of_ble_eq_true rfl⟩) hN rfl hl.1 rfl (Nat.le_of_ble_eq_true rfl) dX7_lose_1 ⟨Nat.zero_le _, Nat.zero_le _⟩ ?_
  refine lv_if_ne (tgt := 9) hx hb dX7_lose_4 (by decide) (fun c2 => ?_) (fun c2 => ?_)
  · replace hres := (if_pos (bI_t c2)).symm.trans hres
    refine lv_aload_n hx hb dX7_lose_9 rfl (lv_at hl 0 rfl) ?_
    refine gC_X7_sheets hx hb hts in7 hown hK hI (hts (.fieldLink RX7 43 "TrickHouse" "sheets" "[LTrickHouse$Sheet;") (by decide +kernel)) dX7_lose_10 ?_
    refine lv_iload_n hx hb dX7_lose_13 rfl (lv_at hl 1 rfl) ?_
    obtain ⟨g3, hres⟩ := gd hres
    refine th_ald (f := fun k => A (19 + k)) hx hb hK hI 12 2 rfl rfl g3 dX7_lose_14 ?_
    refine ro_v S (c_X4_hasNothing l D cy A X A0 v r a1.toNatClampNeg (inR_lt g3) _ rfl) (cwV 0 hts gX7_lose_X4_hasNothing rfl rfl rfl (by decide +kernel) ⟨Nat.le_of_ble_eq_true rfl, Nat.le_of_ble_eq_true rfl⟩) hI hK hN (ci := 4) rfl (atC_sh (inR_lt g3)) rfl rfl hl.1 rfl (Nat.le_of_ble_eq_true rfl) dX7_lose_15 ⟨Nat.zero_le _, Nat.zero_le _⟩ ?_
    refine lv_if_eq (tgt := 23) hx hb dX7_lose_18 (by decide) (fun c5 => ?_) (fun c5 => ?_)
    · replace hres := (if_neg (bI_f c5)).symm.trans hres
      refine lv_aload_n hx hb dX7_lose_23 rfl (lv_at hl 0 rfl) ?_
      refine gC_X7_sheets hx hb hts in7 hown hK hI (hts (.fieldLink RX7 43 "TrickHouse" "sheets" "[LTrickHouse$Sheet;") (by decide +kernel)) dX7_lose_24 ?_
      refine lv_iload_n hx hb dX7_lose_27 rfl (lv_at hl 1 rfl) ?_
      obtain ⟨g6, hres⟩ := gd hres
      refine th_ald (f := fun k => A (19 + k)) hx hb hK hI 12 2 rfl rfl g6 dX7_lose_28 ?_
      obtain ⟨y7, e7, hres⟩ := bd hres
      refine rw_v S (c_X4_clear l D cy A X A0 v r a1.toNatClampNeg (inR_lt g6) y7.1 y7.2 e7) (cwV 0 hts gX7_lose_X4_clear rfl rfl rfl (by decide +kernel) ⟨Nat.le_of_ble_eq_true rfl, Nat.le_of_ble_eq_true rfl⟩) hI hK hN (ci := 4) rfl (atC_sh (inR_lt g6)) rfl rfl hl.1 rfl (Nat.le_of_ble_eq_true rfl) dX7_lose_29 ⟨Nat.zero_le _, Nat.zero_le _⟩ (fun H locs hI => ?_)
      refine lv_iconst (v := 1) hx hb dX7_lose_32 (by decide) ?_
      obtain ⟨rfl, rfl, rfl⟩ := pr3 hres
      exact W.iret hx hb hr (fun t ht hW => ⟨rfl, ⟨by rw [ht]; exact hI.1, va_K.moved hW.alike hK, hI.2.1, NW.warm hW hN⟩, hI.2.2.F ht⟩) hI.2.2.2.2 dX7_lose_33
    · replace hres := (if_pos (bI_t c5)).symm.trans hres
      refine lv_iconst (v := 0) hx hb dX7_lose_21 (by decide) ?_
      obtain ⟨rfl, rfl, rfl⟩ := pr3 hres
      exact W.iret hx hb hr (fun t ht hW => ⟨rfl, ⟨by rw [ht]; exact hI.1, va_K.moved hW.alike hK, hI.2.1, NW.warm hW hN⟩, hI.2.2.F ht⟩) hI.2.2.2.2 dX7_lose_22
  · replace hres := (if_neg (bI_f c2)).symm.trans hres
    refine lv_iconst (v := (-1)) hx hb dX7_lose_7 (by decide) ?_
    obtain ⟨rfl, rfl, rfl⟩ := pr3 hres
    exact W.iret hx hb hr (fun t ht hW => ⟨rfl, ⟨by rw [ht]; exact hI.1, va_K.moved hW.alike hK, hI.2.1, NW.warm hW hN⟩, hI.2.2.F ht⟩) hI.2.2.2.2 dX7_lose_8
abbrev rm_X7_put : Room := { frames := 2, cells := 0, slots := 0, locals := 43 }
def f_X7_put (v : Nat → Int32) (r : Nat → Nat → Int32) (a1 : Int32) (a2 : Int32) (a3 : Int32) : Option (Int32 × ST) := (if (f_X7_isSheet a1) = true then if inR a1 4 = true then (if (f_X4_hasNothing (upd v 1 0) r a1.toNatClampNeg) = true then (f_X7_failed (upd v 1 0) r (1 : Int32)).bind (fun y12 => some (y12.1, (y12.2.1, y12.2.2))) else if inR a1 4 = true then (if (f_X4_holds (upd v 1 0) r a1.toNatClampNeg a2 (1 : Int32)) = true then if inR a1 4 = true then (f_X4_write (upd v 1 0) r a1.toNatClampNeg a2 a3).bind (fun y10 => some (1, (y10.1, y10.2))) else none else (f_X7_failed (upd v 1 0) r (3 : Int32)).bind (fun y11 => some (y11.1, (y11.2.1, y11.2.2)))) else none) else none else some ((-1), ((upd v 1 0), r)))
set_option maxHeartbeats 4000000 in
set_option maxRecDepth 100000 in
theorem c_X7_put (l : Launch) (D : va_G) (cy : Nat → ClassId) (A : Nat → Nat) (X : va_W) (A0 : Nat → Prop) (v : Nat → Int32) (r : Nat → Nat → Int32) (a1 : Int32) (a2 : Int32) (a3 : Int32) (res : Int32) (v2 : Nat → Int32) (r2 : Nat → Nat → Int32) (hres : f_X7_put v r a1 a2 a3 = some (res, (v2, r2))) : Met l yX7_put wsX7_put rm_X7_put (va_Pc [.ref (A 0), .int a1, .int a2, .int a3] (GW D (tyC cy) (pcC cy A v r ++ X) A0)) (QW (some (.int res)) (GW D (tyC cy) (pcC cy A v2 r2 ++ X) A0) A0) 0 0 A0 := by
  refine Met.ofW (cc := cX7_put) (maxL := 4) (ret := (some .int)) (by decide) rfl ?_
  intro p e s m args below meth c s₁ B hml hv
  obtain ⟨hargs, hP, hK, hD0, hN⟩ := hv
  have hx := B.exec
  have hb := B.bytes
  have hr := B.returns
  have hts := atoms_spec (ws := wsX7_put) B.pre
  have hown : s.vm.findClass RX7 = some m.cls := findClass_of_methodNamed B.named
  have hlocks := B.notSynchronized
  have hI : IW D (pcC cy A v r ++ X) A0 s.heap s.heap [] := ⟨hP, hD0, va_S.rf⟩
  have S : CallFix p m c cX7_put 4 s args wsX7_put RX7 := ⟨hx, hb, hml, hown, hts⟩
  have in7 : ∀ w ∈ wsX70, w ∈ wsX7_put := fun _ h => List.mem_cons_of_mem _ (List.mem_append_left _ (List.mem_append_right _ h))
  have hl := lv_entry ([.ref (A 0), .int a1, .int a2, .int a3]) (n := 4) (Nat.le_of_ble_eq_true rfl)
  have hE : entryFrame m args 4 = F0 m 0 ((lg_sl ([.ref (A 0), .int a1, .int a2, .int a3]) ++ List.replicate (4 - (lg_sl ([.ref (A 0), .int a1, .int a2, .int a3])).length) Slot.unset).toArray) [] := by rw [hargs]; exact lg_entry_eq m [.ref (A 0), .int a1, .int a2, .int a3] 4
  rw [hE]
  generalize (lg_sl ([.ref (A 0), .int a1, .int a2, .int a3]) ++ List.replicate (4 - (lg_sl ([.ref (A 0), .int a1, .int a2, .int a3])).length) Slot.unset).toArray = ls at hl ⊢
  have hl : lv_has ls 4 [(0, .ref (A 0)), (1, .int a1), (2, .int a2), (3, .int a3)] := hl
  unfold f_X7_put at hres
  refine lv_aload_n hx hb dX7_put_0 rfl (lv_at hl 0 rfl) ?_
  refine lv_iconst (v := 0) hx hb dX7_put_1 (by decide) ?_
  refine pC_X7_lastFault hx hb hts in7 hown hK hI (hts (.fieldLink RX7 52 "TrickHouse" "lastFault" "I") (by decide +kernel)) dX7_put_2 (fun H locs hI => ?_)
  refine lv_iload_n hx hb dX7_put_5 rfl (lv_at hl 1 rfl) ?_
  refine pu_s S (c_X7_isSheet l a1 _ rfl) (va_cwS 1 hts gX7_put_X7_isSheet rfl rfl rfl (by decide +kernel) ⟨Nat.le_of_ble_eq_true rfl, Nat.le_of_ble_eq_true rfl⟩) hN rfl hl.1 rfl (Nat.le_of_ble_eq_true rfl) dX7_put_6 ⟨Nat.zero_le _, Nat.zero_le _⟩ ?_
  refine lv_if_ne (tgt := 14) hx hb dX7_put_9 (by decide) (fun c2 => ?_) (fun c2 => ?_)
  · replace hres := (if_pos (bI_t c2)).symm.trans hres
    refine lv_aload_n hx hb dX7_put_14 rfl (lv_at hl 0 rfl) ?_
    refine gC_X7_sheets hx hb hts in7 hown hK hI (hts (.fieldLink RX7 43 "TrickHouse" "sheets" "[LTrickHouse$Sheet;") (by decide +kernel)) dX7_put_15 ?_
    refine lv_iload_n hx hb dX7_put_18 rfl (lv_at hl 1 rfl) ?_
    obtain ⟨g3, hres⟩ := gd hres
    refine th_ald (f := fun k => A (19 + k)) hx hb hK hI 12 2 rfl rfl g3 dX7_put_19 ?_
    refine ro_v S (c_X4_hasNothing l D cy A X A0 (upd v 1 0) r a1.toNatClampNeg (inR_lt g3) _ rfl) (cwV 0 hts gX7_put_X4_hasNothing rfl rfl rfl (by decide +kernel) ⟨Nat.le_of_ble_eq_true rfl, Nat.le_of_ble_eq_true rfl⟩) hI hK hN (ci := 4) rfl (atC_sh (inR_lt g3)) rfl rfl hl.1 rfl (Nat.le_of_ble_eq_true rfl) dX7_put_20 ⟨Nat.zero_le _, Nat.zero_le _⟩ ?_
    refine lv_if_eq (tgt := 32) hx hb dX7_put_23 (by decide) (fun c5 => ?_) (fun c5 => ?_)
    · replace hres := (if_neg (bI_f c5)).symm.trans hres
      refine lv_aload_n hx hb dX7_put_32 rfl (lv_at hl 0 rfl) ?_
      refine gC_X7_sheets hx hb hts in7 hown hK hI (hts (.fieldLink RX7 43 "TrickHouse" "sheets" "[LTrickHouse$Sheet;") (by decide +kernel)) dX7_put_33 ?_
      refine lv_iload_n hx hb dX7_put_36 rfl (lv_at hl 1 rfl) ?_
      obtain ⟨g6, hres⟩ := gd hres
      refine th_ald (f := fun k => A (19 + k)) hx hb hK hI 12 2 rfl rfl g6 dX7_put_37 ?_
      refine lv_iload_n hx hb dX7_put_38 rfl (lv_at hl 2 rfl) ?_
      refine lv_iconst (v := 1) hx hb dX7_put_39 (by decide) ?_
      refine ro_v S (c_X4_holds l D cy A X A0 (upd v 1 0) r a1.toNatClampNeg (inR_lt g6) a2 (1 : Int32) _ rfl) (cwV 2 hts gX7_put_X4_holds rfl rfl rfl (by decide +kernel) ⟨Nat.le_of_ble_eq_true rfl, Nat.le_of_ble_eq_true rfl⟩) hI hK hN (ci := 4) rfl (atC_sh (inR_lt g6)) rfl rfl hl.1 rfl (Nat.le_of_ble_eq_true rfl) dX7_put_40 ⟨Nat.zero_le _, Nat.zero_le _⟩ ?_
      refine lv_if_ne (tgt := 52) hx hb dX7_put_43 (by decide) (fun c8 => ?_) (fun c8 => ?_)
      · replace hres := (if_pos (bI_t c8)).symm.trans hres
        refine lv_aload_n hx hb dX7_put_52 rfl (lv_at hl 0 rfl) ?_
        refine gC_X7_sheets hx hb hts in7 hown hK hI (hts (.fieldLink RX7 43 "TrickHouse" "sheets" "[LTrickHouse$Sheet;") (by decide +kernel)) dX7_put_53 ?_
        refine lv_iload_n hx hb dX7_put_56 rfl (lv_at hl 1 rfl) ?_
        obtain ⟨g9, hres⟩ := gd hres
        refine th_ald (f := fun k => A (19 + k)) hx hb hK hI 12 2 rfl rfl g9 dX7_put_57 ?_
        refine lv_iload_n hx hb dX7_put_58 rfl (lv_at hl 2 rfl) ?_
        refine lv_iload_n hx hb dX7_put_59 rfl (lv_at hl 3 rfl) ?_
        obtain ⟨y10, e10, hres⟩ := bd hres
        refine rw_v S (c_X4_write l D cy A X A0 (upd v 1 0) r a1.toNatClampNeg (inR_lt g9) a2 a3 y10.1 y10.2 e10) (cwV 2 hts gX7_put_X4_write rfl rfl rfl (by decide +kernel) ⟨Nat.le_of_ble_eq_true rfl, Nat.le_of_ble_eq_true rfl⟩) hI hK hN (ci := 4) rfl (atC_sh (inR_lt g9)) rfl rfl hl.1 rfl (Nat.le_of_ble_eq_true rfl) dX7_put_60 ⟨Nat.zero_le _, Nat.zero_le _⟩ (fun H locs hI => ?_)
        refine lv_iconst (v := 1) hx hb dX7_put_63 (by decide) ?_
        obtain ⟨rfl, rfl, rfl⟩ := pr3 hres
        exact W.iret hx hb hr (fun t ht hW => ⟨rfl, ⟨by rw [ht]; exact hI.1, va_K.moved hW.alike hK, hI.2.1, NW.warm hW hN⟩, hI.2.2.F ht⟩) hI.2.2.2.2 dX7_put_64
      · replace hres := (if_neg (bI_f c8)).symm.trans hres
        refine lv_aload_n hx hb dX7_put_46 rfl (lv_at hl 0 rfl) ?_
        refine lv_iconst (v := 3) hx hb dX7_put_47 (by decide) ?_
        obtain ⟨y11, e11, hres⟩ := bd hres
        refine rw_v S (c_X7_failed l D cy A X A0 (upd v 1 0) r (3 : Int32) y11.1 y11.2.1 y11.2.2 e11) (cwV 1 hts gX7_put_X7_failed rfl rfl rfl (by decide +kernel) ⟨Nat.le_of_ble_eq_true rfl, Nat.le_of_ble_eq_true rfl⟩) hI hK hN (ci := 6) rfl (atC_0) rfl rfl hl.1 rfl (Nat.le_of_ble_eq_true rfl) dX7_put_48 ⟨Nat.zero_le _, Nat.zero_le _⟩ (fun H locs hI => ?_)
        obtain ⟨rfl, rfl, rfl⟩ := pr3 hres
        exact W.iret hx hb hr (fun t ht hW => ⟨rfl, ⟨by rw [ht]; exact hI.1, va_K.moved hW.alike hK, hI.2.1, NW.warm hW hN⟩, hI.2.2.F ht⟩) hI.2.2.2.2 dX7_put_51
    · replace hres := (if_pos (bI_t c5)).symm.trans hres
      refine lv_aload_n hx hb dX7_put_26 rfl (lv_at hl 0 rfl) ?_
      refine lv_iconst (v := 1) hx hb dX7_put_27 (by decide) ?_
      obtain ⟨y12, e12, hres⟩ := bd hres
      refine rw_v S (c_X7_failed l D cy A X A0 (upd v 1 0) r (1 : Int32) y12.1 y12.2.1 y12.2.2 e12) (cwV 1 hts gX7_put_X7_failed rfl rfl rfl (by decide +kernel) ⟨Nat.le_of_ble_eq_true rfl, Nat.le_of_ble_eq_true rfl⟩) hI hK hN (ci := 6) rfl (atC_0) rfl rfl hl.1 rfl (Nat.le_of_ble_eq_true rfl) dX7_put_28 ⟨Nat.zero_le _, Nat.zero_le _⟩ (fun H locs hI => ?_)
      obtain ⟨rfl, rfl, rfl⟩ := pr3 hres
      exact W.iret hx hb hr (fun t ht hW => ⟨rfl, ⟨by rw [ht]; exact hI.1, va_K.moved hW.alike hK, hI.2.1, NW.warm hW hN⟩, hI.2.2.F ht⟩) hI.2.2.2.2 dX7_put_31
  · replace hres := (if_neg (bI_f c2)).symm.trans hres
    refine lv_iconst (v := (-1)) hx hb dX7_put_12 (by decide) ?_
    obtain ⟨rfl, rfl, rfl⟩ := pr3 hres
    exact W.iret hx hb hr (fun t ht hW => ⟨rfl, ⟨by rw [ht]; exact hI.1, va_K.moved hW.alike hK, hI.2.1, NW.warm hW hN⟩, hI.2.2.F ht⟩) hI.2.2.2.2 dX7_put_13
abbrev rm_X7_cell : Room := { frames := 2, cells := 0, slots := 0, locals := 45 }
def f_X7_cell (v : Nat → Int32) (r : Nat → Nat → Int32) (a1 : Int32) (a2 : Int32) (a3 : Int32) : Option (Int64 × ST) := (if (f_X7_isSheet a1) = true then (if (f_X7_isLane a3) = true then if inR a1 4 = true then (if ((upd (upd v 1 0) 1 (f_X4_faultOfTaking (upd v 1 0) r a1.toNatClampNeg a3 a2 (1 : Int32))) 1) = 0 then if inR a1 4 = true then (f_X4_at (upd (upd v 1 0) 1 (f_X4_faultOfTaking (upd v 1 0) r a1.toNatClampNeg a3 a2 (1 : Int32))) r a1.toNatClampNeg a2).bind (fun y9 => some (y9.toInt64, ((upd (upd v 1 0) 1 (f_X4_faultOfTaking (upd v 1 0) r a1.toNatClampNeg a3 a2 (1 : Int32))), r))) else none else some (((-9223372036854775808) : Int64), ((upd (upd v 1 0) 1 (f_X4_faultOfTaking (upd v 1 0) r a1.toNatClampNeg a3 a2 (1 : Int32))), r))) else none else some (((-9223372036854775808) : Int64), ((upd v 1 0), r))) else some (((-9223372036854775808) : Int64), ((upd v 1 0), r)))
set_option maxHeartbeats 4000000 in
set_option maxRecDepth 100000 in
theorem c_X7_cell (l : Launch) (D : va_G) (cy : Nat → ClassId) (A : Nat → Nat) (X : va_W) (A0 : Nat → Prop) (v : Nat → Int32) (r : Nat → Nat → Int32) (a1 : Int32) (a2 : Int32) (a3 : Int32) (res : Int64) (v2 : Nat → Int32) (r2 : Nat → Nat → Int32) (hres : f_X7_cell v r a1 a2 a3 = some (res, (v2, r2))) : Met l yX7_cell wsX7_cell rm_X7_cell (va_Pc [.ref (A 0), .int a1, .int a2, .int a3] (GW D (tyC cy) (pcC cy A v r ++ X) A0)) (QW (some (.long res)) (GW D (tyC cy) (pcC cy A v2 r2 ++ X) A0) A0) 0 0 A0 := by
  refine Met.ofW (cc := cX7_cell) (maxL := 4) (ret := (some .long)) (by decide) rfl ?_
  intro p e s m args below meth c s₁ B hml hv
  obtain ⟨hargs, hP, hK, hD0, hN⟩ := hv
  have hx := B.exec
  have hb := B.bytes
  have hr := B.returns
  have hts := atoms_spec (ws := wsX7_cell) B.pre
  have hown : s.vm.findClass RX7 = some m.cls := findClass_of_methodNamed B.named
  have hlocks := B.notSynchronized
  have hI : IW D (pcC cy A v r ++ X) A0 s.heap s.heap [] := ⟨hP, hD0, va_S.rf⟩
  have S : CallFix p m c cX7_cell 4 s args wsX7_cell RX7 := ⟨hx, hb, hml, hown, hts⟩
  have in7 : ∀ w ∈ wsX70, w ∈ wsX7_cell := fun _ h => List.mem_cons_of_mem _ (List.mem_append_left _ (List.mem_append_right _ h))
  have hl := lv_entry ([.ref (A 0), .int a1, .int a2, .int a3]) (n := 4) (Nat.le_of_ble_eq_true rfl)
  have hE : entryFrame m args 4 = F0 m 0 ((lg_sl ([.ref (A 0), .int a1, .int a2, .int a3]) ++ List.replicate (4 - (lg_sl ([.ref (A 0), .int a1, .int a2, .int a3])).length) Slot.unset).toArray) [] := by rw [hargs]; exact lg_entry_eq m [.ref (A 0), .int a1, .int a2, .int a3] 4
  rw [hE]
  generalize (lg_sl ([.ref (A 0), .int a1, .int a2, .int a3]) ++ List.replicate (4 - (lg_sl ([.ref (A 0), .int a1, .int a2, .int a3])).length) Slot.unset).toArray = ls at hl ⊢
  have hl : lv_has ls 4 [(0, .ref (A 0)), (1, .int a1), (2, .int a2), (3, .int a3)] := hl
  unfold f_X7_cell at hres
  refine lv_aload_n hx hb dX7_cell_0 rfl (lv_at hl 0 rfl) ?_
  refine lv_iconst (v := 0) hx hb dX7_cell_1 (by decide) ?_
  refine pC_X7_lastFault hx hb hts in7 hown hK hI (hts (.fieldLink RX7 52 "TrickHouse" "lastFault" "I") (by decide +kernel)) dX7_cell_2 (fun H locs hI => ?_)
  refine lv_iload_n hx hb dX7_cell_5 rfl (lv_at hl 1 rfl) ?_
  refine pu_s S (c_X7_isSheet l a1 _ rfl) (va_cwS 1 hts gX7_cell_X7_isSheet rfl rfl rfl (by decide +kernel) ⟨Nat.le_of_ble_eq_true rfl, Nat.le_of_ble_eq_true rfl⟩) hN rfl hl.1 rfl (Nat.le_of_ble_eq_true rfl) dX7_cell_6 ⟨Nat.zero_le _, Nat.zero_le _⟩ ?_
  refine lv_if_eq (tgt := 19) hx hb dX7_cell_9 (by decide) (fun c2 => ?_) (fun c2 => ?_)
  · replace hres := (if_neg (bI_f c2)).symm.trans hres
    refine lv_ldc2 hx hb hown (hts (.constantLong RX7 187 (-9223372036854775808)) (by decide +kernel)) dX7_cell_19 ?_
    obtain ⟨rfl, rfl, rfl⟩ := pr3 hres
    exact W.lret hx hb hr (fun t ht hW => ⟨rfl, ⟨by rw [ht]; exact hI.1, va_K.moved hW.alike hK, hI.2.1, NW.warm hW hN⟩, hI.2.2.F ht⟩) hI.2.2.2.2 dX7_cell_22
  · replace hres := (if_pos (bI_t c2)).symm.trans hres
    refine lv_iload_n hx hb dX7_cell_12 rfl (lv_at hl 3 rfl) ?_
    refine pu_s S (c_X7_isLane l a3 _ rfl) (va_cwS 1 hts gX7_cell_X7_isLane rfl rfl rfl (by decide +kernel) ⟨Nat.le_of_ble_eq_true rfl, Nat.le_of_ble_eq_true rfl⟩) hN rfl hl.1 rfl (Nat.le_of_ble_eq_true rfl) dX7_cell_13 ⟨Nat.zero_le _, Nat.zero_le _⟩ ?_
    refine lv_if_ne (tgt := 23) hx hb dX7_cell_16 (by decide) (fun c4 => ?_) (fun c4 => ?_)
    · replace hres := (if_pos (bI_t c4)).symm.trans hres
      refine lv_aload_n hx hb dX7_cell_23 rfl (lv_at hl 0 rfl) ?_
      refine lv_aload_n hx hb dX7_cell_24 rfl (lv_at hl 0 rfl) ?_
      refine gC_X7_sheets hx hb hts in7 hown hK hI (hts (.fieldLink RX7 43 "TrickHouse" "sheets" "[LTrickHouse$Sheet;") (by decide +kernel)) dX7_cell_25 ?_
      refine lv_iload_n hx hb dX7_cell_28 rfl (lv_at hl 1 rfl) ?_
      obtain ⟨g5, hres⟩ := gd hres
      refine th_ald (f := fun k => A (19 + k)) hx hb hK hI 12 2 rfl rfl g5 dX7_cell_29 ?_
      refine lv_iload_n hx hb dX7_cell_30 rfl (lv_at hl 3 rfl) ?_
      refine lv_iload_n hx hb dX7_cell_31 rfl (lv_at hl 2 rfl) ?_
      refine lv_iconst (v := 1) hx hb dX7_cell_32 (by decide) ?_
      refine ro_v S (c_X4_faultOfTaking l D cy A X A0 (upd v 1 0) r a1.toNatClampNeg (inR_lt g5) a3 a2 (1 : Int32) _ rfl) (cwV 3 hts gX7_cell_X4_faultOfTaking rfl rfl rfl (by decide +kernel) ⟨Nat.le_of_ble_eq_true rfl, Nat.le_of_ble_eq_true rfl⟩) hI hK hN (ci := 4) rfl (atC_sh (inR_lt g5)) rfl rfl hl.1 rfl (Nat.le_of_ble_eq_true rfl) dX7_cell_33 ⟨Nat.zero_le _, Nat.zero_le _⟩ ?_
      refine pC_X7_lastFault hx hb hts in7 hown hK hI (hts (.fieldLink RX7 52 "TrickHouse" "lastFault" "I") (by decide +kernel)) dX7_cell_36 (fun H locs hI => ?_)
      refine lv_aload_n hx hb dX7_cell_39 rfl (lv_at hl 0 rfl) ?_
      refine gC_X7_lastFault hx hb hts in7 hown hK hI (hts (.fieldLink RX7 52 "TrickHouse" "lastFault" "I") (by decide +kernel)) dX7_cell_40 ?_
      refine lv_if_ne (tgt := 60) hx hb dX7_cell_43 (by decide) (fun c7 => ?_) (fun c7 => ?_)
      · replace hres := (if_neg c7).symm.trans hres
        refine lv_ldc2 hx hb hown (hts (.constantLong RX7 187 (-9223372036854775808)) (by decide +kernel)) dX7_cell_60 ?_
        obtain ⟨rfl, rfl, rfl⟩ := pr3 hres
        exact W.lret hx hb hr (fun t ht hW => ⟨rfl, ⟨by rw [ht]; exact hI.1, va_K.moved hW.alike hK, hI.2.1, NW.warm hW hN⟩, hI.2.2.F ht⟩) hI.2.2.2.2 dX7_cell_63
      · replace hres := (if_pos c7).symm.trans hres
        refine lv_aload_n hx hb dX7_cell_46 rfl (lv_at hl 0 rfl) ?_
        refine gC_X7_sheets hx hb hts in7 hown hK hI (hts (.fieldLink RX7 43 "TrickHouse" "sheets" "[LTrickHouse$Sheet;") (by decide +kernel)) dX7_cell_47 ?_
        refine lv_iload_n hx hb dX7_cell_50 rfl (lv_at hl 1 rfl) ?_
        obtain ⟨g8, hres⟩ := gd hres
        refine th_ald (f := fun k => A (19 + k)) hx hb hK hI 12 2 rfl rfl g8 dX7_cell_51 ?_
        refine lv_iload_n hx hb dX7_cell_52 rfl (lv_at hl 2 rfl) ?_
        obtain ⟨y9, e9, hres⟩ := bd hres
        refine ro_v S (c_X4_at l D cy A X A0 (upd (upd v 1 0) 1 (f_X4_faultOfTaking (upd v 1 0) r a1.toNatClampNeg a3 a2 (1 : Int32))) r a1.toNatClampNeg (inR_lt g8) a2 y9 e9) (cwV 1 hts gX7_cell_X4_at rfl rfl rfl (by decide +kernel) ⟨Nat.le_of_ble_eq_true rfl, Nat.le_of_ble_eq_true rfl⟩) hI hK hN (ci := 4) rfl (atC_sh (inR_lt g8)) rfl rfl hl.1 rfl (Nat.le_of_ble_eq_true rfl) dX7_cell_53 ⟨Nat.zero_le _, Nat.zero_le _⟩ ?_
        refine lv_i2l hx hb dX7_cell_56 rfl ?_
        refine lv_goto (tgt := 63) hx hb dX7_cell_57 (by decide) ?_
        obtain ⟨rfl, rfl, rfl⟩ := pr3 hres
        exact W.lret hx hb hr (fun t ht hW => ⟨rfl, ⟨by rw [ht]; exact hI.1, va_K.moved hW.alike hK, hI.2.1, NW.warm hW hN⟩, hI.2.2.F ht⟩) hI.2.2.2.2 dX7_cell_63
    · replace hres := (if_neg (bI_f c4)).symm.trans hres
      refine lv_ldc2 hx hb hown (hts (.constantLong RX7 187 (-9223372036854775808)) (by decide +kernel)) dX7_cell_19 ?_
      obtain ⟨rfl, rfl, rfl⟩ := pr3 hres
      exact W.lret hx hb hr (fun t ht hW => ⟨rfl, ⟨by rw [ht]; exact hI.1, va_K.moved hW.alike hK, hI.2.1, NW.warm hW hN⟩, hI.2.2.F ht⟩) hI.2.2.2.2 dX7_cell_22
abbrev rm_X7_copy : Room := { frames := 2, cells := 0, slots := 0, locals := 200 }
def f_X7_copy (v : Nat → Int32) (r : Nat → Nat → Int32) (a1 : Int32) (a2 : Int32) (a3 : Int32) (a4 : Int32) (a5 : Int32) : Option (Int32 × ST) := (if (f_X7_isSheet a1) = true then (if (f_X7_isSheet a3) = true then if inR a1 4 = true then if inR a3 4 = true then (if (f_X4_hasNothing (upd v 1 0) r a1.toNatClampNeg) = true then (f_X7_failed (upd v 1 0) r (1 : Int32)).bind (fun y9 => some (y9.1, (y9.2.1, y9.2.2))) else (if (f_X4_hasNothing (upd v 1 0) r a3.toNatClampNeg) = true then (f_X7_failed (upd v 1 0) r (1 : Int32)).bind (fun y21 => some (y21.1, (y21.2.1, y21.2.2))) else (if (r 10 a1.toNatClampNeg) = (r 10 a3.toNatClampNeg) then (if (f_X4_holds (upd v 1 0) r a1.toNatClampNeg a2 a5) = true then (if (f_X4_holds (upd v 1 0) r a3.toNatClampNeg a4 a5) = true then if cpOK a2 a4 a5 = true then some (a5, ((upd v 1 0), (va_up r (12 + a3.toNatClampNeg) (va_cpy (r (12 + a1.toNatClampNeg)) (r (12 + a3.toNatClampNeg)) a2.toNatClampNeg a4.toNatClampNeg a5.toNatClampNeg)))) else none else (f_X7_failed (upd v 1 0) r (3 : Int32)).bind (fun y19 => some (y19.1, (y19.2.1, y19.2.2)))) else (f_X7_failed (upd v 1 0) r (3 : Int32)).bind (fun y15 => some (y15.1, (y15.2.1, y15.2.2)))) else (f_X7_failed (upd v 1 0) r (2 : Int32)).bind (fun y20 => some (y20.1, (y20.2.1, y20.2.2)))))) else none else none else some ((-1), ((upd v 1 0), r))) else some ((-1), ((upd v 1 0), r)))
set_option maxHeartbeats 4000000 in
set_option maxRecDepth 100000 in
theorem c_X7_copy (l : Launch) (D : va_G) (cy : Nat → ClassId) (A : Nat → Nat) (X : va_W) (A0 : Nat → Prop) (v : Nat → Int32) (r : Nat → Nat → Int32) (a1 : Int32) (a2 : Int32) (a3 : Int32) (a4 : Int32) (a5 : Int32) (res : Int32) (v2 : Nat → Int32) (r2 : Nat → Nat → Int32) (hres : f_X7_copy v r a1 a2 a3 a4 a5 = some (res, (v2, r2))) : Met l yX7_copy wsX7_copy rm_X7_copy (va_Pc [.ref (A 0), .int a1, .int a2, .int a3, .int a4, .int a5] (GW D (tyC cy) (pcC cy A v r ++ X) A0)) (QW (some (.int res)) (GW D (tyC cy) (pcC cy A v2 r2 ++ X) A0) A0) 0 0 A0 := by
  refine Met.ofW (cc := cX7_copy) (maxL := 8) (ret := (some .int)) (by decide) rfl ?_
  intro p e s m args below meth c s₁ B hml hv
  obtain ⟨hargs, hP, hK, hD0, hN⟩ := hv
  have hx := B.exec
  have hb := B.bytes
  have hr := B.returns
  have hts := atoms_spec (ws := wsX7_copy) B.pre
  have hown : s.vm.findClass RX7 = some m.cls := findClass_of_methodNamed B.named
  have hlocks := B.notSynchronized
  have hI : IW D (pcC cy A v r ++ X) A0 s.heap s.heap [] := ⟨hP, hD0, va_S.rf⟩
  have S : CallFix p m c cX7_copy 8 s args wsX7_copy RX7 := ⟨hx, hb, hml, hown, hts⟩
  have in4 : ∀ w ∈ wsX40, w ∈ wsX7_copy := fun _ h => List.mem_cons_of_mem _ (List.mem_append_right _ h)
  have in7 : ∀ w ∈ wsX70, w ∈ wsX7_copy := fun _ h => List.mem_cons_of_mem _ (List.mem_append_left _ (List.mem_append_right _ h))
  have hl := lv_entry ([.ref (A 0), .int a1, .int a2, .int a3, .int a4, .int a5]) (n := 8) (Nat.le_of_ble_eq_true rfl)
  have hE : entryFrame m args 8 = F0 m 0 ((lg_sl ([.ref (A 0), .int a1, .int a2, .int a3, .int a4, .int a5]) ++ List.replicate (8 - (lg_sl ([.ref (A 0), .int a1, .int a2, .int a3, .int a4, .int a5])).length) Slot.unset).toArray) [] := by rw [hargs]; exact lg_entry_eq m [.ref (A 0), .int a1, .int a2, .int a3, .int a4, .int a5] 8
  rw [hE]
  generalize (lg_sl ([.ref (A 0), .int a1, .int a2, .int a3, .int a4, .int a5]) ++ List.replicate (8 - (lg_sl ([.ref (A 0), .int a1, .int a2, .int a3, .int a4, .int a5])).length) Slot.unset).toArray = ls at hl ⊢
  have hl : lv_has ls 8 [(0, .ref (A 0)), (1, .int a1), (2, .int a2), (3, .int a3), (4, .int a4), (5, .int a5)] := hl
  unfold f_X7_copy at hres
  refine lv_aload_n hx hb dX7_copy_0 rfl (lv_at hl 0 rfl) ?_
  refine lv_iconst (v := 0) hx hb dX7_copy_1 (by decide) ?_
  refine pC_X7_lastFault hx hb hts in7 hown hK hI (hts (.fieldLink RX7 52 "TrickHouse" "lastFault" "I") (by decide +kernel)) dX7_copy_2 (fun H locs hI => ?_)
  refine lv_iload_n hx hb dX7_copy_5 rfl (lv_at hl 1 rfl) ?_
  refine pu_s S (c_X7_isSheet l a1 _ rfl) (va_cwS 1 hts gX7_copy_X7_isSheet rfl rfl rfl (by decide +kernel) ⟨Nat.le_of_ble_eq_true rfl, Nat.le_of_ble_eq_true rfl⟩) hN rfl hl.1 rfl (Nat.le_of_ble_eq_true rfl) dX7_copy_6 ⟨Nat.zero_le _, Nat.zero_le _⟩ ?_
  refine lv_if_eq (tgt := 19) hx hb dX7_copy_9 (by decide) (fun c2 => ?_) (fun c2 => ?_)
  · replace hres := (if_neg (bI_f c2)).symm.trans hres
    refine lv_iconst (v := (-1)) hx hb dX7_copy_19 (by decide) ?_
    obtain ⟨rfl, rfl, rfl⟩ := pr3 hres
    exact W.iret hx hb hr (fun t ht hW => ⟨rfl, ⟨by rw [ht]; exact hI.1, va_K.moved hW.alike hK, hI.2.1, NW.warm hW hN⟩, hI.2.2.F ht⟩) hI.2.2.2.2 dX7_copy_20
  · replace hres := (if_pos (bI_t c2)).symm.trans hres
    refine lv_iload_n hx hb dX7_copy_12 rfl (lv_at hl 3 rfl) ?_
    refine pu_s S (c_X7_isSheet l a3 _ rfl) (va_cwS 1 hts gX7_copy_X7_isSheet rfl rfl rfl (by decide +kernel) ⟨Nat.le_of_ble_eq_true rfl, Nat.le_of_ble_eq_true rfl⟩) hN rfl hl.1 rfl (Nat.le_of_ble_eq_true rfl) dX7_copy_13 ⟨Nat.zero_le _, Nat.zero_le _⟩ ?_
    refine lv_if_ne (tgt := 21) hx hb dX7_copy_16 (by decide) (fun c4 => ?_) (fun c4 => ?_)
    · replace hres := (if_pos (bI_t c4)).symm.trans hres
      refine lv_aload_n hx hb dX7_copy_21 rfl (lv_at hl 0 rfl) ?_
      refine gC_X7_sheets hx hb hts in7 hown hK hI (hts (.fieldLink RX7 43 "TrickHouse" "sheets" "[LTrickHouse$Sheet;") (by decide +kernel)) dX7_copy_22 ?_
      refine lv_iload_n hx hb dX7_copy_25 rfl (lv_at hl 1 rfl) ?_
      obtain ⟨g5, hres⟩ := gd hres
      refine th_ald (f := fun k => A (19 + k)) hx hb hK hI 12 2 rfl rfl g5 dX7_copy_26 ?_
      refine lv_astore (lv' := [(6, .ref (A (19 + a1.toNatClampNeg))), (0, .ref (A 0)), (1, .int a1), (2, .int a2), (3, .int a3), (4, .int a4), (5, .int a5)]) hx hb dX7_copy_27 hl (by decide) rfl (fun ls hl => ?_)
      refine lv_aload_n hx hb dX7_copy_29 rfl (lv_at hl 1 rfl) ?_
      refine gC_X7_sheets hx hb hts in7 hown hK hI (hts (.fieldLink RX7 43 "TrickHouse" "sheets" "[LTrickHouse$Sheet;") (by decide +kernel)) dX7_copy_30 ?_
      refine lv_iload_n hx hb dX7_copy_33 rfl (lv_at hl 4 rfl) ?_
      obtain ⟨g6, hres⟩ := gd hres
      refine th_ald (f := fun k => A (19 + k)) hx hb hK hI 12 2 rfl rfl g6 dX7_copy_34 ?_
      refine lv_astore (lv' := [(7, .ref (A (19 + a3.toNatClampNeg))), (6, .ref (A (19 + a1.toNatClampNeg))), (0, .ref (A 0)), (1, .int a1), (2, .int a2), (3, .int a3), (4, .int a4), (5, .int a5)]) hx hb dX7_copy_35 hl (by decide) rfl (fun ls hl => ?_)
      refine lv_aload hx hb dX7_copy_37 (lv_at hl 1 rfl) ?_
      refine ro_v S (c_X4_hasNothing l D cy A X A0 (upd v 1 0) r a1.toNatClampNeg (inR_lt g5) _ rfl) (cwV 0 hts gX7_copy_X4_hasNothing rfl rfl rfl (by decide +kernel) ⟨Nat.le_of_ble_eq_true rfl, Nat.le_of_ble_eq_true rfl⟩) hI hK hN (ci := 4) rfl (atC_sh (inR_lt g5)) rfl rfl hl.1 rfl (Nat.le_of_ble_eq_true rfl) dX7_copy_39 ⟨Nat.zero_le _, Nat.zero_le _⟩ ?_
      refine lv_if_ne (tgt := 53) hx hb dX7_copy_42 (by decide) (fun c8 => ?_) (fun c8 => ?_)
      · replace hres := (if_pos (bI_t c8)).symm.trans hres
        refine lv_aload_n hx hb dX7_copy_53 rfl (lv_at hl 2 rfl) ?_
        refine lv_iconst (v := 1) hx hb dX7_copy_54 (by decide) ?_
        obtain ⟨y9, e9, hres⟩ := bd hres
        refine rw_v S (c_X7_failed l D cy A X A0 (upd v 1 0) r (1 : Int32) y9.1 y9.2.1 y9.2.2 e9) (cwV 1 hts gX7_copy_X7_failed rfl rfl rfl (by decide +kernel) ⟨Nat.le_of_ble_eq_true rfl, Nat.le_of_ble_eq_true rfl⟩) hI hK hN (ci := 6) rfl (atC_0) rfl rfl hl.1 rfl (Nat.le_of_ble_eq_true rfl) dX7_copy_55 ⟨Nat.zero_le _, Nat.zero_le _⟩ (fun H locs hI => ?_)
        obtain ⟨rfl, rfl, rfl⟩ := pr3 hres
        exact W.iret hx hb hr (fun t ht hW => ⟨rfl, ⟨by rw [ht]; exact hI.1, va_K.moved hW.alike hK, hI.2.1, NW.warm hW hN⟩, hI.2.2.F ht⟩) hI.2.2.2.2 dX7_copy_58
      · replace hres := (if_neg (bI_f c8)).symm.trans hres
        refine lv_aload hx hb dX7_copy_45 (lv_at hl 0 rfl) ?_
        refine ro_v S (c_X4_hasNothing l D cy A X A0 (upd v 1 0) r a3.toNatClampNeg (inR_lt g6) _ rfl) (cwV 0 hts gX7_copy_X4_hasNothing rfl rfl rfl (by decide +kernel) ⟨Nat.le_of_ble_eq_true rfl, Nat.le_of_ble_eq_true rfl⟩) hI hK hN (ci := 4) rfl (atC_sh (inR_lt g6)) rfl rfl hl.1 rfl (Nat.le_of_ble_eq_true rfl) dX7_copy_47 ⟨Nat.zero_le _, Nat.zero_le _⟩ ?_
        refine lv_if_eq (tgt := 59) hx hb dX7_copy_50 (by decide) (fun c11 => ?_) (fun c11 => ?_)
        · replace hres := (if_neg (bI_f c11)).symm.trans hres
          refine lv_aload hx hb dX7_copy_59 (lv_at hl 1 rfl) ?_
          refine gC_X4_lane (inR_lt g5) hx hb hts in4 hown hK hI (hts (.fieldLink RX7 216 "TrickHouse$Sheet" "lane" "I") (by decide +kernel)) dX7_copy_61 ?_
          refine lv_aload hx hb dX7_copy_64 (lv_at hl 0 rfl) ?_
          refine gC_X4_lane (inR_lt g6) hx hb hts in4 hown hK hI (hts (.fieldLink RX7 216 "TrickHouse$Sheet" "lane" "I") (by decide +kernel)) dX7_copy_66 ?_
          refine lv_icmp_eq (tgt := 78) hx hb dX7_copy_69 (by decide) (fun c12 => ?_) (fun c12 => ?_)
          · replace hres := (if_pos c12).symm.trans hres
            refine lv_aload hx hb dX7_copy_78 (lv_at hl 1 rfl) ?_
            refine lv_iload_n hx hb dX7_copy_80 rfl (lv_at hl 4 rfl) ?_
            refine lv_iload hx hb dX7_copy_81 (lv_at hl 7 rfl) ?_
            refine ro_v S (c_X4_holds l D cy A X A0 (upd v 1 0) r a1.toNatClampNeg (inR_lt g5) a2 a5 _ rfl) (cwV 2 hts gX7_copy_X4_holds rfl rfl rfl (by decide +kernel) ⟨Nat.le_of_ble_eq_true rfl, Nat.le_of_ble_eq_true rfl⟩) hI hK hN (ci := 4) rfl (atC_sh (inR_lt g5)) rfl rfl hl.1 rfl (Nat.le_of_ble_eq_true rfl) dX7_copy_83 ⟨Nat.zero_le _, Nat.zero_le _⟩ ?_
            refine lv_if_eq (tgt := 101) hx hb dX7_copy_86 (by decide) (fun c14 => ?_) (fun c14 => ?_)
            · replace hres := (if_neg (bI_f c14)).symm.trans hres
              refine lv_aload_n hx hb dX7_copy_101 rfl (lv_at hl 2 rfl) ?_
              refine lv_iconst (v := 3) hx hb dX7_copy_102 (by decide) ?_
              obtain ⟨y15, e15, hres⟩ := bd hres
              refine rw_v S (c_X7_failed l D cy A X A0 (upd v 1 0) r (3 : Int32) y15.1 y15.2.1 y15.2.2 e15) (cwV 1 hts gX7_copy_X7_failed rfl rfl rfl (by decide +kernel) ⟨Nat.le_of_ble_eq_true rfl, Nat.le_of_ble_eq_true rfl⟩) hI hK hN (ci := 6) rfl (atC_0) rfl rfl hl.1 rfl (Nat.le_of_ble_eq_true rfl) dX7_copy_103 ⟨Nat.zero_le _, Nat.zero_le _⟩ (fun H locs hI => ?_)
              obtain ⟨rfl, rfl, rfl⟩ := pr3 hres
              exact W.iret hx hb hr (fun t ht hW => ⟨rfl, ⟨by rw [ht]; exact hI.1, va_K.moved hW.alike hK, hI.2.1, NW.warm hW hN⟩, hI.2.2.F ht⟩) hI.2.2.2.2 dX7_copy_106
            · replace hres := (if_pos (bI_t c14)).symm.trans hres
              refine lv_aload hx hb dX7_copy_89 (lv_at hl 0 rfl) ?_
              refine lv_iload hx hb dX7_copy_91 (lv_at hl 6 rfl) ?_
              refine lv_iload hx hb dX7_copy_93 (lv_at hl 7 rfl) ?_
              refine ro_v S (c_X4_holds l D cy A X A0 (upd v 1 0) r a3.toNatClampNeg (inR_lt g6) a4 a5 _ rfl) (cwV 2 hts gX7_copy_X4_holds rfl rfl rfl (by decide +kernel) ⟨Nat.le_of_ble_eq_true rfl, Nat.le_of_ble_eq_true rfl⟩) hI hK hN (ci := 4) rfl (atC_sh (inR_lt g6)) rfl rfl hl.1 rfl (Nat.le_of_ble_eq_true rfl) dX7_copy_95 ⟨Nat.zero_le _, Nat.zero_le _⟩ ?_
              refine lv_if_ne (tgt := 107) hx hb dX7_copy_98 (by decide) (fun c17 => ?_) (fun c17 => ?_)
              · replace hres := (if_pos (bI_t c17)).symm.trans hres
                refine lv_aload hx hb dX7_copy_107 (lv_at hl 1 rfl) ?_
                refine gC_X4_cells (inR_lt g5) hx hb hts in4 hown hK hI (hts (.fieldLink RX7 219 "TrickHouse$Sheet" "cells" "[I") (by decide +kernel)) dX7_copy_109 ?_
                refine lv_iload_n hx hb dX7_copy_112 rfl (lv_at hl 4 rfl) ?_
                refine lv_aload hx hb dX7_copy_113 (lv_at hl 0 rfl) ?_
                refine gC_X4_cells (inR_lt g6) hx hb hts in4 hown hK hI (hts (.fieldLink RX7 219 "TrickHouse$Sheet" "cells" "[I") (by decide +kernel)) dX7_copy_115 ?_
                refine lv_iload hx hb dX7_copy_118 (lv_at hl 6 rfl) ?_
                refine lv_iload hx hb dX7_copy_120 (lv_at hl 7 rfl) ?_
                obtain ⟨g18, hres⟩ := gd hres
                refine th_copyC (inR_lt g5) (inR_lt g6) hx hb (hml.trans hl.1.symm) hown (hts (.methodLink RX7 222 arraycopyName) (by decide +kernel)) (hts (.native arraycopyName) (by decide +kernel)) (hts (.static arraycopyName) (by decide +kernel)) (hts (.initialized "java/lang/System") (by decide +kernel)) hK hI g18 (Nat.le_of_ble_eq_true rfl) (Nat.le_of_ble_eq_true rfl) dX7_copy_122 (fun H locs hI => ?_)
                refine lv_iload hx hb dX7_copy_125 (lv_at hl 7 rfl) ?_
                obtain ⟨rfl, rfl, rfl⟩ := pr3 hres
                exact W.iret hx hb hr (fun t ht hW => ⟨rfl, ⟨by rw [ht]; exact hI.1, va_K.moved hW.alike hK, hI.2.1, NW.warm hW hN⟩, hI.2.2.F ht⟩) hI.2.2.2.2 dX7_copy_127
              · replace hres := (if_neg (bI_f c17)).symm.trans hres
                refine lv_aload_n hx hb dX7_copy_101 rfl (lv_at hl 2 rfl) ?_
                refine lv_iconst (v := 3) hx hb dX7_copy_102 (by decide) ?_
                obtain ⟨y19, e19, hres⟩ := bd hres
                refine rw_v S (c_X7_failed l D cy A X A0 (upd v 1 0) r (3 : Int32) y19.1 y19.2.1 y19.2.2 e19) (cwV 1 hts gX7_copy_X7_failed rfl rfl rfl (by decide +kernel) ⟨Nat.le_of_ble_eq_true rfl, Nat.le_of_ble_eq_true rfl⟩) hI hK hN (ci := 6) rfl (atC_0) rfl rfl hl.1 rfl (Nat.le_of_ble_eq_true rfl) dX7_copy_103 ⟨Nat.zero_le _, Nat.zero_le _⟩ (fun H locs hI => ?_)
                obtain ⟨rfl, rfl, rfl⟩ := pr3 hres
                exact W.iret hx hb hr (fun t ht hW => ⟨rfl, ⟨by rw [ht]; exact hI.1, va_K.moved hW.alike hK, hI.2.1, NW.warm hW hN⟩, hI.2.2.F ht⟩) hI.2.2.2.2 dX7_copy_106
          · replace hres := (if_neg c12).symm.trans hres
            refine lv_aload_n hx hb dX7_copy_72 rfl (lv_at hl 2 rfl) ?_
            refine lv_iconst (v := 2) hx hb dX7_copy_73 (by decide) ?_
            obtain ⟨y20, e20, hres⟩ := bd hres
            refine rw_v S (c_X7_failed l D cy A X A0 (upd v 1 0) r (2 : Int32) y20.1 y20.2.1 y20.2.2 e20) (cwV 1 hts gX7_copy_X7_failed rfl rfl rfl (by decide +kernel) ⟨Nat.le_of_ble_eq_true rfl, Nat.le_of_ble_eq_true rfl⟩) hI hK hN (ci := 6) rfl (atC_0) rfl rfl hl.1 rfl (Nat.le_of_ble_eq_true rfl) dX7_copy_74 ⟨Nat.zero_le _, Nat.zero_le _⟩ (fun H locs hI => ?_)
            obtain ⟨rfl, rfl, rfl⟩ := pr3 hres
            exact W.iret hx hb hr (fun t ht hW => ⟨rfl, ⟨by rw [ht]; exact hI.1, va_K.moved hW.alike hK, hI.2.1, NW.warm hW hN⟩, hI.2.2.F ht⟩) hI.2.2.2.2 dX7_copy_77
        · replace hres := (if_pos (bI_t c11)).symm.trans hres
          refine lv_aload_n hx hb dX7_copy_53 rfl (lv_at hl 2 rfl) ?_
          refine lv_iconst (v := 1) hx hb dX7_copy_54 (by decide) ?_
          obtain ⟨y21, e21, hres⟩ := bd hres
          refine rw_v S (c_X7_failed l D cy A X A0 (upd v 1 0) r (1 : Int32) y21.1 y21.2.1 y21.2.2 e21) (cwV 1 hts gX7_copy_X7_failed rfl rfl rfl (by decide +kernel) ⟨Nat.le_of_ble_eq_true rfl, Nat.le_of_ble_eq_true rfl⟩) hI hK hN (ci := 6) rfl (atC_0) rfl rfl hl.1 rfl (Nat.le_of_ble_eq_true rfl) dX7_copy_55 ⟨Nat.zero_le _, Nat.zero_le _⟩ (fun H locs hI => ?_)
          obtain ⟨rfl, rfl, rfl⟩ := pr3 hres
          exact W.iret hx hb hr (fun t ht hW => ⟨rfl, ⟨by rw [ht]; exact hI.1, va_K.moved hW.alike hK, hI.2.1, NW.warm hW hN⟩, hI.2.2.F ht⟩) hI.2.2.2.2 dX7_copy_58
    · replace hres := (if_neg (bI_f c4)).symm.trans hres
      refine lv_iconst (v := (-1)) hx hb dX7_copy_19 (by decide) ?_
      obtain ⟨rfl, rfl, rfl⟩ := pr3 hres
      exact W.iret hx hb hr (fun t ht hW => ⟨rfl, ⟨by rw [ht]; exact hI.1, va_K.moved hW.alike hK, hI.2.1, NW.warm hW hN⟩, hI.2.2.F ht⟩) hI.2.2.2.2 dX7_copy_20
abbrev rm_X7_tell : Room := { frames := 4, cells := 0, slots := 0, locals := 85 }
def f_X7_tell (v : Nat → Int32) (r : Nat → Nat → Int32) (a1 : Int32) : Option (Int32 × ST) := (if (f_X1_isArticle v r a1) = true then if inR a1 6 = true then (if (r 0 a1.toNatClampNeg) = 1 then (f_X7_tellAsBeast v r a1.toNatClampNeg).bind (fun y5 => some (y5.1, (y5.2.1, y5.2.2))) else (if (r 0 a1.toNatClampNeg) = 2 then (f_X7_tellAsPerson v r a1.toNatClampNeg).bind (fun y7 => some (y7.1, (y7.2.1, y7.2.2))) else (f_X7_tellAsThing v r a1.toNatClampNeg).bind (fun y8 => some (y8.1, (y8.2.1, y8.2.2))))) else none else some ((-1), (v, r)))
set_option maxHeartbeats 4000000 in
set_option maxRecDepth 100000 in
theorem c_X7_tell (l : Launch) (D : va_G) (cy : Nat → ClassId) (A : Nat → Nat) (X : va_W) (A0 : Nat → Prop) (v : Nat → Int32) (r : Nat → Nat → Int32) (a1 : Int32) (res : Int32) (v2 : Nat → Int32) (r2 : Nat → Nat → Int32) (hres : f_X7_tell v r a1 = some (res, (v2, r2))) : Met l yX7_tell wsX7_tell rm_X7_tell (va_Pc [.ref (A 0), .int a1] (GW D (tyC cy) (pcC cy A v r ++ X) A0)) (QW (some (.int res)) (GW D (tyC cy) (pcC cy A v2 r2 ++ X) A0) A0) 0 0 A0 := by
  refine Met.ofW (cc := cX7_tell) (maxL := 3) (ret := (some .int)) (by decide) rfl ?_
  intro p e s m args below meth c s₁ B hml hv
  obtain ⟨hargs, hP, hK, hD0, hN⟩ := hv
  have hx := B.exec
  have hb := B.bytes
  have hr := B.returns
  have hts := atoms_spec (ws := wsX7_tell) B.pre
  have hown : s.vm.findClass RX7 = some m.cls := findClass_of_methodNamed B.named
  have hlocks := B.notSynchronized
  have hI : IW D (pcC cy A v r ++ X) A0 s.heap s.heap [] := ⟨hP, hD0, va_S.rf⟩
  have S : CallFix p m c cX7_tell 3 s args wsX7_tell RX7 := ⟨hx, hb, hml, hown, hts⟩
  have in0 : ∀ w ∈ wsX00, w ∈ wsX7_tell := fun _ h => List.mem_cons_of_mem _ (List.mem_append_right _ h)
  have in1 : ∀ w ∈ wsX10, w ∈ wsX7_tell := fun _ h => List.mem_cons_of_mem _ (List.mem_append_left _ (List.mem_append_right _ h))
  have in7 : ∀ w ∈ wsX70, w ∈ wsX7_tell := fun _ h => List.mem_cons_of_mem _ (List.mem_append_left _ (List.mem_append_left _ (List.mem_append_right _ h)))
  have hl := lv_entry ([.ref (A 0), .int a1]) (n := 3) (Nat.le_of_ble_eq_true rfl)
  have hE : entryFrame m args 3 = F0 m 0 ((lg_sl ([.ref (A 0), .int a1]) ++ List.replicate (3 - (lg_sl ([.ref (A 0), .int a1])).length) Slot.unset).toArray) [] := by rw [hargs]; exact lg_entry_eq m [.ref (A 0), .int a1] 3
  rw [hE]
  generalize (lg_sl ([.ref (A 0), .int a1]) ++ List.replicate (3 - (lg_sl ([.ref (A 0), .int a1])).length) Slot.unset).toArray = ls at hl ⊢
  have hl : lv_has ls 3 [(0, .ref (A 0)), (1, .int a1)] := hl
  unfold f_X7_tell at hres
  refine lv_aload_n hx hb dX7_tell_0 rfl (lv_at hl 0 rfl) ?_
  refine gC_X7_house hx hb hts in7 hown hK hI (hts (.fieldLink RX7 12 "TrickHouse" "house" "LTrickHouse$House;") (by decide +kernel)) dX7_tell_1 ?_
  refine lv_iload_n hx hb dX7_tell_4 rfl (lv_at hl 1 rfl) ?_
  refine ro_v S (c_X1_isArticle l D cy A X A0 v r a1 _ rfl) (cwV 1 hts gX7_tell_X1_isArticle rfl rfl rfl (by decide +kernel) ⟨Nat.le_of_ble_eq_true rfl, Nat.le_of_ble_eq_true rfl⟩) hI hK hN (ci := 1) rfl (atC_1) rfl rfl hl.1 rfl (Nat.le_of_ble_eq_true rfl) dX7_tell_5 ⟨Nat.zero_le _, Nat.zero_le _⟩ ?_
  refine lv_if_ne (tgt := 13) hx hb dX7_tell_8 (by decide) (fun c2 => ?_) (fun c2 => ?_)
  · replace hres := (if_pos (bI_t c2)).symm.trans hres
    refine lv_aload_n hx hb dX7_tell_13 rfl (lv_at hl 0 rfl) ?_
    refine gC_X7_house hx hb hts in7 hown hK hI (hts (.fieldLink RX7 12 "TrickHouse" "house" "LTrickHouse$House;") (by decide +kernel)) dX7_tell_14 ?_
    refine gC_X1_articles hx hb hts in1 hown hK hI (hts (.fieldLink RX7 89 "TrickHouse$House" "articles" "[LTrickHouse$Article;") (by decide +kernel)) dX7_tell_17 ?_
    refine lv_iload_n hx hb dX7_tell_20 rfl (lv_at hl 1 rfl) ?_
    obtain ⟨g3, hres⟩ := gd hres
    refine th_ald (f := fun k => A (13 + k)) hx hb hK hI 2 1 rfl rfl g3 dX7_tell_21 ?_
    refine lv_astore_n (lv' := [(2, .ref (A (13 + a1.toNatClampNeg))), (0, .ref (A 0)), (1, .int a1)]) hx hb dX7_tell_22 rfl hl (by decide) rfl (fun ls hl => ?_)
    refine lv_aload_n hx hb dX7_tell_23 rfl (lv_at hl 0 rfl) ?_
    refine gC_X0_kind (inR_lt g3) hx hb hts in0 hown hK hI (hts (.fieldLink RX7 93 "TrickHouse$Article" "kind" "I") (by decide +kernel)) dX7_tell_24 ?_
    by_cases c4 : (r 0 a1.toNatClampNeg) = 1
    · replace hres := (if_pos c4).symm.trans hres
      refine lv_lookup (off := 31) (tgt := 58) hx hb dX7_tell_27 (by decide) (by rw [c4]; decide) (by decide) ?_
      refine lv_aload_n hx hb dX7_tell_58 rfl (lv_at hl 1 rfl) ?_
      refine lv_aload_n hx hb dX7_tell_59 rfl (lv_at hl 0 rfl) ?_
      obtain ⟨y5, e5, hres⟩ := bd hres
      refine rw_v S (c_X7_tellAsBeast l D cy A X A0 v r a1.toNatClampNeg (inR_lt g3) y5.1 y5.2.1 y5.2.2 e5) (cwV 1 hts gX7_tell_X7_tellAsBeast rfl rfl rfl (by decide +kernel) ⟨Nat.le_of_ble_eq_true rfl, Nat.le_of_ble_eq_true rfl⟩) hI hK hN (ci := 6) rfl (atC_0) rfl rfl hl.1 rfl (Nat.le_of_ble_eq_true rfl) dX7_tell_60 ⟨Nat.zero_le _, Nat.zero_le _⟩ (fun H locs hI => ?_)
      obtain ⟨rfl, rfl, rfl⟩ := pr3 hres
      exact W.iret hx hb hr (fun t ht hW => ⟨rfl, ⟨by rw [ht]; exact hI.1, va_K.moved hW.alike hK, hI.2.1, NW.warm hW hN⟩, hI.2.2.F ht⟩) hI.2.2.2.2 dX7_tell_63
    · replace hres := (if_neg c4).symm.trans hres
      by_cases c6 : (r 0 a1.toNatClampNeg) = 2
      · replace hres := (if_pos c6).symm.trans hres
        refine lv_lookup (off := 25) (tgt := 52) hx hb dX7_tell_27 (by decide) (by rw [c6]; decide) (by decide) ?_
        refine lv_aload_n hx hb dX7_tell_52 rfl (lv_at hl 1 rfl) ?_
        refine lv_aload_n hx hb dX7_tell_53 rfl (lv_at hl 0 rfl) ?_
        obtain ⟨y7, e7, hres⟩ := bd hres
        refine rw_v S (c_X7_tellAsPerson l D cy A X A0 v r a1.toNatClampNeg (inR_lt g3) y7.1 y7.2.1 y7.2.2 e7) (cwV 1 hts gX7_tell_X7_tellAsPerson rfl rfl rfl (by decide +kernel) ⟨Nat.le_of_ble_eq_true rfl, Nat.le_of_ble_eq_true rfl⟩) hI hK hN (ci := 6) rfl (atC_0) rfl rfl hl.1 rfl (Nat.le_of_ble_eq_true rfl) dX7_tell_54 ⟨Nat.zero_le _, Nat.zero_le _⟩ (fun H locs hI => ?_)
        obtain ⟨rfl, rfl, rfl⟩ := pr3 hres
        exact W.iret hx hb hr (fun t ht hW => ⟨rfl, ⟨by rw [ht]; exact hI.1, va_K.moved hW.alike hK, hI.2.1, NW.warm hW hN⟩, hI.2.2.F ht⟩) hI.2.2.2.2 dX7_tell_57
      · replace hres := (if_neg c6).symm.trans hres
        refine lv_lookup (off := 37) (tgt := 64) hx hb dX7_tell_27 (by decide) ((lv_osw c4 rfl).trans ((lv_osw c6 rfl).trans rfl)) (by decide) ?_
        refine lv_aload_n hx hb dX7_tell_64 rfl (lv_at hl 1 rfl) ?_
        refine lv_aload_n hx hb dX7_tell_65 rfl (lv_at hl 0 rfl) ?_
        obtain ⟨y8, e8, hres⟩ := bd hres
        refine rw_v S (c_X7_tellAsThing l D cy A X A0 v r a1.toNatClampNeg (inR_lt g3) y8.1 y8.2.1 y8.2.2 e8) (cwV 1 hts gX7_tell_X7_tellAsThing rfl rfl rfl (by decide +kernel) ⟨Nat.le_of_ble_eq_true rfl, Nat.le_of_ble_eq_true rfl⟩) hI hK hN (ci := 6) rfl (atC_0) rfl rfl hl.1 rfl (Nat.le_of_ble_eq_true rfl) dX7_tell_66 ⟨Nat.zero_le _, Nat.zero_le _⟩ (fun H locs hI => ?_)
        obtain ⟨rfl, rfl, rfl⟩ := pr3 hres
        exact W.iret hx hb hr (fun t ht hW => ⟨rfl, ⟨by rw [ht]; exact hI.1, va_K.moved hW.alike hK, hI.2.1, NW.warm hW hN⟩, hI.2.2.F ht⟩) hI.2.2.2.2 dX7_tell_69
  · replace hres := (if_neg (bI_f c2)).symm.trans hres
    refine lv_iconst (v := (-1)) hx hb dX7_tell_11 (by decide) ?_
    obtain ⟨rfl, rfl, rfl⟩ := pr3 hres
    exact W.iret hx hb hr (fun t ht hW => ⟨rfl, ⟨by rw [ht]; exact hI.1, va_K.moved hW.alike hK, hI.2.1, NW.warm hW hN⟩, hI.2.2.F ht⟩) hI.2.2.2.2 dX7_tell_12
abbrev rm_X7_announce : Room := { frames := 1, cells := 0, slots := 0, locals := 21 }
def f_X7_announce (v : Nat → Int32) (r : Nat → Nat → Int32) (a1 : Int32) : Option (Int32 × ST) := (if (f_X1_isArticle v r a1) = true then if inR a1 6 = true then (if (r 0 a1.toNatClampNeg) = 2 then (f_X7_begin v r (5 : Int32)).bind (fun y6 => some (80, (y6.1, y6.2))) else (f_X7_begin v r (4 : Int32)).bind (fun y5 => some (a1, (y5.1, y5.2)))) else none else some ((-1), (v, r)))
set_option maxHeartbeats 4000000 in
set_option maxRecDepth 100000 in
theorem c_X7_announce (l : Launch) (D : va_G) (cy : Nat → ClassId) (A : Nat → Nat) (X : va_W) (A0 : Nat → Prop) (v : Nat → Int32) (r : Nat → Nat → Int32) (a1 : Int32) (res : Int32) (v2 : Nat → Int32) (r2 : Nat → Nat → Int32) (hres : f_X7_announce v r a1 = some (res, (v2, r2))) : Met l yX7_announce wsX7_announce rm_X7_announce (va_Pc [.ref (A 0), .int a1] (GW D (tyC cy) (pcC cy A v r ++ X) A0)) (QW (some (.int res)) (GW D (tyC cy) (pcC cy A v2 r2 ++ X) A0) A0) 0 0 A0 := by
  refine Met.ofW (cc := cX7_announce) (maxL := 2) (ret := (some .int)) (by decide) rfl ?_
  intro p e s m args below meth c s₁ B hml hv
  obtain ⟨hargs, hP, hK, hD0, hN⟩ := hv
  have hx := B.exec
  have hb := B.bytes
  have hr := B.returns
  have hts := atoms_spec (ws := wsX7_announce) B.pre
  have hown : s.vm.findClass RX7 = some m.cls := findClass_of_methodNamed B.named
  have hlocks := B.notSynchronized
  have hI : IW D (pcC cy A v r ++ X) A0 s.heap s.heap [] := ⟨hP, hD0, va_S.rf⟩
  have S : CallFix p m c cX7_announce 2 s args wsX7_announce RX7 := ⟨hx, hb, hml, hown, hts⟩
  have in0 : ∀ w ∈ wsX00, w ∈ wsX7_announce := fun _ h => List.mem_cons_of_mem _ (List.mem_append_right _ h)
  have in1 : ∀ w ∈ wsX10, w ∈ wsX7_announce := fun _ h => List.mem_cons_of_mem _ (List.mem_append_left _ (List.mem_append_right _ h))
  have in7 : ∀ w ∈ wsX70, w ∈ wsX7_announce := fun _ h => List.mem_cons_of_mem _ (List.mem_append_left _ (List.mem_append_left _ (List.mem_append_right _ h)))
  have hl := lv_entry ([.ref (A 0), .int a1]) (n := 2) (Nat.le_of_ble_eq_true rfl)
  have hE : entryFrame m args 2 = F0 m 0 ((lg_sl ([.ref (A 0), .int a1]) ++ List.replicate (2 - (lg_sl ([.ref (A 0), .int a1])).length) Slot.unset).toArray) [] := by rw [hargs]; exact lg_entry_eq m [.ref (A 0), .int a1] 2
  rw [hE]
  generalize (lg_sl ([.ref (A 0), .int a1]) ++ List.replicate (2 - (lg_sl ([.ref (A 0), .int a1])).length) Slot.unset).toArray = ls at hl ⊢
  have hl : lv_has ls 2 [(0, .ref (A 0)), (1, .int a1)] := hl
  unfold f_X7_announce at hres
  refine lv_aload_n hx hb dX7_announce_0 rfl (lv_at hl 0 rfl) ?_
  refine gC_X7_house hx hb hts in7 hown hK hI (hts (.fieldLink RX7 12 "TrickHouse" "house" "LTrickHouse$House;") (by decide +kernel)) dX7_announce_1 ?_
  refine lv_iload_n hx hb dX7_announce_4 rfl (lv_at hl 1 rfl) ?_
  refine ro_v S (c_X1_isArticle l D cy A X A0 v r a1 _ rfl) (cwV 1 hts gX7_announce_X1_isArticle rfl rfl rfl (by decide +kernel) ⟨Nat.le_of_ble_eq_true rfl, Nat.le_of_ble_eq_true rfl⟩) hI hK hN (ci := 1) rfl (atC_1) rfl rfl hl.1 rfl (Nat.le_of_ble_eq_true rfl) dX7_announce_5 ⟨Nat.zero_le _, Nat.zero_le _⟩ ?_
  refine lv_if_ne (tgt := 13) hx hb dX7_announce_8 (by decide) (fun c2 => ?_) (fun c2 => ?_)
  · replace hres := (if_pos (bI_t c2)).symm.trans hres
    refine lv_aload_n hx hb dX7_announce_13 rfl (lv_at hl 0 rfl) ?_
    refine gC_X7_house hx hb hts in7 hown hK hI (hts (.fieldLink RX7 12 "TrickHouse" "house" "LTrickHouse$House;") (by decide +kernel)) dX7_announce_14 ?_
    refine gC_X1_articles hx hb hts in1 hown hK hI (hts (.fieldLink RX7 89 "TrickHouse$House" "articles" "[LTrickHouse$Article;") (by decide +kernel)) dX7_announce_17 ?_
    refine lv_iload_n hx hb dX7_announce_20 rfl (lv_at hl 1 rfl) ?_
    obtain ⟨g3, hres⟩ := gd hres
    refine th_ald (f := fun k => A (13 + k)) hx hb hK hI 2 1 rfl rfl g3 dX7_announce_21 ?_
    refine gC_X0_kind (inR_lt g3) hx hb hts in0 hown hK hI (hts (.fieldLink RX7 93 "TrickHouse$Article" "kind" "I") (by decide +kernel)) dX7_announce_22 ?_
    refine lv_iconst (v := 2) hx hb dX7_announce_25 (by decide) ?_
    refine lv_icmp_ne (tgt := 37) hx hb dX7_announce_26 (by decide) (fun c4 => ?_) (fun c4 => ?_)
    · replace hres := (if_neg c4).symm.trans hres
      refine lv_aload_n hx hb dX7_announce_37 rfl (lv_at hl 0 rfl) ?_
      refine lv_iconst (v := 4) hx hb dX7_announce_38 (by decide) ?_
      obtain ⟨y5, e5, hres⟩ := bd hres
      refine rw_v S (c_X7_begin l D cy A X A0 v r (4 : Int32) y5.1 y5.2 e5) (cwV 1 hts gX7_announce_X7_begin rfl rfl rfl (by decide +kernel) ⟨Nat.le_of_ble_eq_true rfl, Nat.le_of_ble_eq_true rfl⟩) hI hK hN (ci := 6) rfl (atC_0) rfl rfl hl.1 rfl (Nat.le_of_ble_eq_true rfl) dX7_announce_39 ⟨Nat.zero_le _, Nat.zero_le _⟩ (fun H locs hI => ?_)
      refine lv_iload_n hx hb dX7_announce_42 rfl (lv_at hl 1 rfl) ?_
      obtain ⟨rfl, rfl, rfl⟩ := pr3 hres
      exact W.iret hx hb hr (fun t ht hW => ⟨rfl, ⟨by rw [ht]; exact hI.1, va_K.moved hW.alike hK, hI.2.1, NW.warm hW hN⟩, hI.2.2.F ht⟩) hI.2.2.2.2 dX7_announce_43
    · replace hres := (if_pos c4).symm.trans hres
      refine lv_aload_n hx hb dX7_announce_29 rfl (lv_at hl 0 rfl) ?_
      refine lv_iconst (v := 5) hx hb dX7_announce_30 (by decide) ?_
      obtain ⟨y6, e6, hres⟩ := bd hres
      refine rw_v S (c_X7_begin l D cy A X A0 v r (5 : Int32) y6.1 y6.2 e6) (cwV 1 hts gX7_announce_X7_begin rfl rfl rfl (by decide +kernel) ⟨Nat.le_of_ble_eq_true rfl, Nat.le_of_ble_eq_true rfl⟩) hI hK hN (ci := 6) rfl (atC_0) rfl rfl hl.1 rfl (Nat.le_of_ble_eq_true rfl) dX7_announce_31 ⟨Nat.zero_le _, Nat.zero_le _⟩ (fun H locs hI => ?_)
      refine lv_bipush (v := 80) hx hb dX7_announce_34 (by decide) ?_
      obtain ⟨rfl, rfl, rfl⟩ := pr3 hres
      exact W.iret hx hb hr (fun t ht hW => ⟨rfl, ⟨by rw [ht]; exact hI.1, va_K.moved hW.alike hK, hI.2.1, NW.warm hW hN⟩, hI.2.2.F ht⟩) hI.2.2.2.2 dX7_announce_36
  · replace hres := (if_neg (bI_f c2)).symm.trans hres
    refine lv_iconst (v := (-1)) hx hb dX7_announce_11 (by decide) ?_
    obtain ⟨rfl, rfl, rfl⟩ := pr3 hres
    exact W.iret hx hb hr (fun t ht hW => ⟨rfl, ⟨by rw [ht]; exact hI.1, va_K.moved hW.alike hK, hI.2.1, NW.warm hW hN⟩, hI.2.2.F ht⟩) hI.2.2.2.2 dX7_announce_12
abbrev rm_X7_as : Room := { frames := 1, cells := 0, slots := 0, locals := 22 }
def f_X7_as (v : Nat → Int32) (r : Nat → Nat → Int32) (a1 : Int32) (a2 : Int32) : Option (Int32 × ST) := (if (f_X1_isArticle (upd v 1 0) r a1) = true then (if (f_X7_within a2 (0 : Int32) (2 : Int32)) = true then if inR a1 6 = true then (if (r 0 a1.toNatClampNeg) < a2 then (f_X7_failed (upd v 1 0) r (2 : Int32)).bind (fun y7 => some (y7.1, (y7.2.1, y7.2.2))) else some (1, ((upd v 1 0), r))) else none else some ((-2), ((upd v 1 0), r))) else some ((-1), ((upd v 1 0), r)))
set_option maxHeartbeats 4000000 in
set_option maxRecDepth 100000 in
theorem c_X7_as (l : Launch) (D : va_G) (cy : Nat → ClassId) (A : Nat → Nat) (X : va_W) (A0 : Nat → Prop) (v : Nat → Int32) (r : Nat → Nat → Int32) (a1 : Int32) (a2 : Int32) (res : Int32) (v2 : Nat → Int32) (r2 : Nat → Nat → Int32) (hres : f_X7_as v r a1 a2 = some (res, (v2, r2))) : Met l yX7_as wsX7_as rm_X7_as (va_Pc [.ref (A 0), .int a1, .int a2] (GW D (tyC cy) (pcC cy A v r ++ X) A0)) (QW (some (.int res)) (GW D (tyC cy) (pcC cy A v2 r2 ++ X) A0) A0) 0 0 A0 := by
  refine Met.ofW (cc := cX7_as) (maxL := 3) (ret := (some .int)) (by decide) rfl ?_
  intro p e s m args below meth c s₁ B hml hv
  obtain ⟨hargs, hP, hK, hD0, hN⟩ := hv
  have hx := B.exec
  have hb := B.bytes
  have hr := B.returns
  have hts := atoms_spec (ws := wsX7_as) B.pre
  have hown : s.vm.findClass RX7 = some m.cls := findClass_of_methodNamed B.named
  have hlocks := B.notSynchronized
  have hI : IW D (pcC cy A v r ++ X) A0 s.heap s.heap [] := ⟨hP, hD0, va_S.rf⟩
  have S : CallFix p m c cX7_as 3 s args wsX7_as RX7 := ⟨hx, hb, hml, hown, hts⟩
  have in0 : ∀ w ∈ wsX00, w ∈ wsX7_as := fun _ h => List.mem_cons_of_mem _ (List.mem_append_right _ h)
  have in1 : ∀ w ∈ wsX10, w ∈ wsX7_as := fun _ h => List.mem_cons_of_mem _ (List.mem_append_left _ (List.mem_append_right _ h))
  have in7 : ∀ w ∈ wsX70, w ∈ wsX7_as := fun _ h => List.mem_cons_of_mem _ (List.mem_append_left _ (List.mem_append_left _ (List.mem_append_right _ h)))
  have hl := lv_entry ([.ref (A 0), .int a1, .int a2]) (n := 3) (Nat.le_of_ble_eq_true rfl)
  have hE : entryFrame m args 3 = F0 m 0 ((lg_sl ([.ref (A 0), .int a1, .int a2]) ++ List.replicate (3 - (lg_sl ([.ref (A 0), .int a1, .int a2])).length) Slot.unset).toArray) [] := by rw [hargs]; exact lg_entry_eq m [.ref (A 0), .int a1, .int a2] 3
  rw [hE]
  generalize (lg_sl ([.ref (A 0), .int a1, .int a2]) ++ List.replicate (3 - (lg_sl ([.ref (A 0), .int a1, .int a2])).length) Slot.unset).toArray = ls at hl ⊢
  have hl : lv_has ls 3 [(0, .ref (A 0)), (1, .int a1), (2, .int a2)] := hl
  unfold f_X7_as at hres
  refine lv_aload_n hx hb dX7_as_0 rfl (lv_at hl 0 rfl) ?_
  refine lv_iconst (v := 0) hx hb dX7_as_1 (by decide) ?_
  refine pC_X7_lastFault hx hb hts in7 hown hK hI (hts (.fieldLink RX7 52 "TrickHouse" "lastFault" "I") (by decide +kernel)) dX7_as_2 (fun H locs hI => ?_)
  refine lv_aload_n hx hb dX7_as_5 rfl (lv_at hl 0 rfl) ?_
  refine gC_X7_house hx hb hts in7 hown hK hI (hts (.fieldLink RX7 12 "TrickHouse" "house" "LTrickHouse$House;") (by decide +kernel)) dX7_as_6 ?_
  refine lv_iload_n hx hb dX7_as_9 rfl (lv_at hl 1 rfl) ?_
  refine ro_v S (c_X1_isArticle l D cy A X A0 (upd v 1 0) r a1 _ rfl) (cwV 1 hts gX7_as_X1_isArticle rfl rfl rfl (by decide +kernel) ⟨Nat.le_of_ble_eq_true rfl, Nat.le_of_ble_eq_true rfl⟩) hI hK hN (ci := 1) rfl (atC_1) rfl rfl hl.1 rfl (Nat.le_of_ble_eq_true rfl) dX7_as_10 ⟨Nat.zero_le _, Nat.zero_le _⟩ ?_
  refine lv_if_ne (tgt := 18) hx hb dX7_as_13 (by decide) (fun c2 => ?_) (fun c2 => ?_)
  · replace hres := (if_pos (bI_t c2)).symm.trans hres
    refine lv_iload_n hx hb dX7_as_18 rfl (lv_at hl 2 rfl) ?_
    refine lv_iconst (v := 0) hx hb dX7_as_19 (by decide) ?_
    refine lv_iconst (v := 2) hx hb dX7_as_20 (by decide) ?_
    refine pu_s S (c_X7_within l a2 (0 : Int32) (2 : Int32) _ rfl) (va_cwS 3 hts gX7_as_X7_within rfl rfl rfl (by decide +kernel) ⟨Nat.le_of_ble_eq_true rfl, Nat.le_of_ble_eq_true rfl⟩) hN rfl hl.1 rfl (Nat.le_of_ble_eq_true rfl) dX7_as_21 ⟨Nat.zero_le _, Nat.zero_le _⟩ ?_
    refine lv_if_ne (tgt := 30) hx hb dX7_as_24 (by decide) (fun c4 => ?_) (fun c4 => ?_)
    · replace hres := (if_pos (bI_t c4)).symm.trans hres
      refine lv_iload_n hx hb dX7_as_30 rfl (lv_at hl 2 rfl) ?_
      refine lv_aload_n hx hb dX7_as_31 rfl (lv_at hl 0 rfl) ?_
      refine gC_X7_house hx hb hts in7 hown hK hI (hts (.fieldLink RX7 12 "TrickHouse" "house" "LTrickHouse$House;") (by decide +kernel)) dX7_as_32 ?_
      refine gC_X1_articles hx hb hts in1 hown hK hI (hts (.fieldLink RX7 89 "TrickHouse$House" "articles" "[LTrickHouse$Article;") (by decide +kernel)) dX7_as_35 ?_
      refine lv_iload_n hx hb dX7_as_38 rfl (lv_at hl 1 rfl) ?_
      obtain ⟨g5, hres⟩ := gd hres
      refine th_ald (f := fun k => A (13 + k)) hx hb hK hI 2 1 rfl rfl g5 dX7_as_39 ?_
      refine gC_X0_kind (inR_lt g5) hx hb hts in0 hown hK hI (hts (.fieldLink RX7 93 "TrickHouse$Article" "kind" "I") (by decide +kernel)) dX7_as_40 ?_
      refine lv_icmp_gt (tgt := 50) hx hb dX7_as_43 (by decide) (fun c6 => ?_) (fun c6 => ?_)
      · replace hres := (if_pos c6).symm.trans hres
        refine lv_aload_n hx hb dX7_as_50 rfl (lv_at hl 0 rfl) ?_
        refine lv_iconst (v := 2) hx hb dX7_as_51 (by decide) ?_
        obtain ⟨y7, e7, hres⟩ := bd hres
        refine rw_v S (c_X7_failed l D cy A X A0 (upd v 1 0) r (2 : Int32) y7.1 y7.2.1 y7.2.2 e7) (cwV 1 hts gX7_as_X7_failed rfl rfl rfl (by decide +kernel) ⟨Nat.le_of_ble_eq_true rfl, Nat.le_of_ble_eq_true rfl⟩) hI hK hN (ci := 6) rfl (atC_0) rfl rfl hl.1 rfl (Nat.le_of_ble_eq_true rfl) dX7_as_52 ⟨Nat.zero_le _, Nat.zero_le _⟩ (fun H locs hI => ?_)
        obtain ⟨rfl, rfl, rfl⟩ := pr3 hres
        exact W.iret hx hb hr (fun t ht hW => ⟨rfl, ⟨by rw [ht]; exact hI.1, va_K.moved hW.alike hK, hI.2.1, NW.warm hW hN⟩, hI.2.2.F ht⟩) hI.2.2.2.2 dX7_as_55
      · replace hres := (if_neg c6).symm.trans hres
        refine lv_iconst (v := 1) hx hb dX7_as_46 (by decide) ?_
        refine lv_goto (tgt := 55) hx hb dX7_as_47 (by decide) ?_
        obtain ⟨rfl, rfl, rfl⟩ := pr3 hres
        exact W.iret hx hb hr (fun t ht hW => ⟨rfl, ⟨by rw [ht]; exact hI.1, va_K.moved hW.alike hK, hI.2.1, NW.warm hW hN⟩, hI.2.2.F ht⟩) hI.2.2.2.2 dX7_as_55
    · replace hres := (if_neg (bI_f c4)).symm.trans hres
      refine lv_bipush (v := (-2)) hx hb dX7_as_27 (by decide) ?_
      obtain ⟨rfl, rfl, rfl⟩ := pr3 hres
      exact W.iret hx hb hr (fun t ht hW => ⟨rfl, ⟨by rw [ht]; exact hI.1, va_K.moved hW.alike hK, hI.2.1, NW.warm hW hN⟩, hI.2.2.F ht⟩) hI.2.2.2.2 dX7_as_29
  · replace hres := (if_neg (bI_f c2)).symm.trans hres
    refine lv_iconst (v := (-1)) hx hb dX7_as_16 (by decide) ?_
    obtain ⟨rfl, rfl, rfl⟩ := pr3 hres
    exact W.iret hx hb hr (fun t ht hW => ⟨rfl, ⟨by rw [ht]; exact hI.1, va_K.moved hW.alike hK, hI.2.1, NW.warm hW hN⟩, hI.2.2.F ht⟩) hI.2.2.2.2 dX7_as_17
abbrev rm_X7_trace : Room := { frames := 0, cells := 0, slots := 0, locals := 0 }
def f_X7_trace (v : Nat → Int32) (r : Nat → Nat → Int32) : Int32 := ((v 0))
set_option maxHeartbeats 4000000 in
set_option maxRecDepth 100000 in
theorem c_X7_trace (l : Launch) (D : va_G) (cy : Nat → ClassId) (A : Nat → Nat) (X : va_W) (A0 : Nat → Prop) (v : Nat → Int32) (r : Nat → Nat → Int32) (res : Int32) (hres : f_X7_trace v r = res) : Met l yX7_trace wsX7_trace rm_X7_trace (va_Pc [.ref (A 0)] (GW D (tyC cy) (pcC cy A v r ++ X) A0)) (QR (.int res)) 0 0 (fun _ => False) := by
  refine Met.ofW (cc := cX7_trace) (maxL := 1) (ret := (some .int)) (by decide) rfl ?_
  intro p e s m args below meth c s₁ B hml hv
  obtain ⟨hargs, hP, hK, hD0, hN⟩ := hv
  have hx := B.exec
  have hb := B.bytes
  have hr := B.returns
  have hts := atoms_spec (ws := wsX7_trace) B.pre
  have hown : s.vm.findClass RX7 = some m.cls := findClass_of_methodNamed B.named
  have hlocks := B.notSynchronized
  have hI : IW D (pcC cy A v r ++ X) A0 s.heap s.heap [] := ⟨hP, hD0, va_S.rf⟩
  have in7 : ∀ w ∈ wsX70, w ∈ wsX7_trace := fun _ h => List.mem_cons_of_mem _ (List.mem_append_right _ h)
  have hl := lv_entry ([.ref (A 0)]) (n := 1) (Nat.le_of_ble_eq_true rfl)
  have hE : entryFrame m args 1 = F0 m 0 ((lg_sl ([.ref (A 0)]) ++ List.replicate (1 - (lg_sl ([.ref (A 0)])).length) Slot.unset).toArray) [] := by rw [hargs]; exact lg_entry_eq m [.ref (A 0)] 1
  rw [hE]
  generalize (lg_sl ([.ref (A 0)]) ++ List.replicate (1 - (lg_sl ([.ref (A 0)])).length) Slot.unset).toArray = ls at hl ⊢
  have hl : lv_has ls 1 [(0, .ref (A 0))] := hl
  unfold f_X7_trace at hres
  refine lv_aload_n hx hb dX7_trace_0 rfl (lv_at hl 0 rfl) ?_
  refine gC_X7_traced hx hb hts in7 hown hK hI (hts (.fieldLink RX7 48 "TrickHouse" "traced" "I") (by decide +kernel)) dX7_trace_1 ?_
  obtain rfl := hres
  exact W.iret hx hb hr (fun t ht hW => ⟨rfl, ht⟩) (fun _ h => absurd h List.not_mem_nil) dX7_trace_4
abbrev rm_X7_fault : Room := { frames := 0, cells := 0, slots := 0, locals := 0 }
def f_X7_fault (v : Nat → Int32) (r : Nat → Nat → Int32) : Int32 := ((v 1))
set_option maxHeartbeats 4000000 in
set_option maxRecDepth 100000 in
theorem c_X7_fault (l : Launch) (D : va_G) (cy : Nat → ClassId) (A : Nat → Nat) (X : va_W) (A0 : Nat → Prop) (v : Nat → Int32) (r : Nat → Nat → Int32) (res : Int32) (hres : f_X7_fault v r = res) : Met l yX7_fault wsX7_fault rm_X7_fault (va_Pc [.ref (A 0)] (GW D (tyC cy) (pcC cy A v r ++ X) A0)) (QR (.int res)) 0 0 (fun _ => False) := by
  refine Met.ofW (cc := cX7_fault) (maxL := 1) (ret := (some .int)) (by decide) rfl ?_
  intro p e s m args below meth c s₁ B hml hv
  obtain ⟨hargs, hP, hK, hD0, hN⟩ := hv
  have hx := B.exec
  have hb := B.bytes
  have hr := B.returns
  have hts := atoms_spec (ws := wsX7_fault) B.pre
  have hown : s.vm.findClass RX7 = some m.cls := findClass_of_methodNamed B.named
  have hlocks := B.notSynchronized
  have hI : IW D (pcC cy A v r ++ X) A0 s.heap s.heap [] := ⟨hP, hD0, va_S.rf⟩
  have in7 : ∀ w ∈ wsX70, w ∈ wsX7_fault := fun _ h => List.mem_cons_of_mem _ (List.mem_append_right _ h)
  have hl := lv_entry ([.ref (A 0)]) (n := 1) (Nat.le_of_ble_eq_true rfl)
  have hE : entryFrame m args 1 = F0 m 0 ((lg_sl ([.ref (A 0)]) ++ List.replicate (1 - (lg_sl ([.ref (A 0)])).length) Slot.unset).toArray) [] := by rw [hargs]; exact lg_entry_eq m [.ref (A 0)] 1
  rw [hE]
  generalize (lg_sl ([.ref (A 0)]) ++ List.replicate (1 - (lg_sl ([.ref (A 0)])).length) Slot.unset).toArray = ls at hl ⊢
  have hl : lv_has ls 1 [(0, .ref (A 0))] := hl
  unfold f_X7_fault at hres
  refine lv_aload_n hx hb dX7_fault_0 rfl (lv_at hl 0 rfl) ?_
  refine gC_X7_lastFault hx hb hts in7 hown hK hI (hts (.fieldLink RX7 52 "TrickHouse" "lastFault" "I") (by decide +kernel)) dX7_fault_1 ?_
  obtain rfl := hres
  exact W.iret hx hb hr (fun t ht hW => ⟨rfl, ht⟩) (fun _ h => absurd h List.not_mem_nil) dX7_fault_4
abbrev rm_X7_many : Room := { frames := 1, cells := 0, slots := 0, locals := 20 }
def f_X7_many (v : Nat → Int32) (r : Nat → Nat → Int32) (a1 : Int32) : Int32 := (if a1 = 0 then ((v 2)) else (if a1 = 1 then ((v 3)) else (if a1 = 2 then ((f_J6_bitCount_0f7a4 (v 5))) else (if a1 = 3 then ((v 4)) else (if a1 = 4 then ((v 6)) else ((-2)))))))
set_option maxHeartbeats 4000000 in
set_option maxRecDepth 100000 in
theorem c_X7_many (l : Launch) (D : va_G) (cy : Nat → ClassId) (A : Nat → Nat) (X : va_W) (A0 : Nat → Prop) (v : Nat → Int32) (r : Nat → Nat → Int32) (a1 : Int32) (res : Int32) (hres : f_X7_many v r a1 = res) : Met l yX7_many wsX7_many rm_X7_many (va_Pc [.ref (A 0), .int a1] (GW D (tyC cy) (pcC cy A v r ++ X) A0)) (QR (.int res)) 0 0 (fun _ => False) := by
  refine Met.ofW (cc := cX7_many) (maxL := 2) (ret := (some .int)) (by decide) rfl ?_
  intro p e s m args below meth c s₁ B hml hv
  obtain ⟨hargs, hP, hK, hD0, hN⟩ := hv
  have hx := B.exec
  have hb := B.bytes
  have hr := B.returns
  have hts := atoms_spec (ws := wsX7_many) B.pre
  have hown : s.vm.findClass RX7 = some m.cls := findClass_of_methodNamed B.named
  have hlocks := B.notSynchronized
  have hI : IW D (pcC cy A v r ++ X) A0 s.heap s.heap [] := ⟨hP, hD0, va_S.rf⟩
  have S : CallFix p m c cX7_many 2 s args wsX7_many RX7 := ⟨hx, hb, hml, hown, hts⟩
  have in1 : ∀ w ∈ wsX10, w ∈ wsX7_many := fun _ h => List.mem_cons_of_mem _ (List.mem_append_left _ (List.mem_append_right _ h))
  have in3 : ∀ w ∈ wsX30, w ∈ wsX7_many := fun _ h => List.mem_cons_of_mem _ (List.mem_append_right _ h)
  have in7 : ∀ w ∈ wsX70, w ∈ wsX7_many := fun _ h => List.mem_cons_of_mem _ (List.mem_append_left _ (List.mem_append_left _ (List.mem_append_right _ h)))
  have hl := lv_entry ([.ref (A 0), .int a1]) (n := 2) (Nat.le_of_ble_eq_true rfl)
  have hE : entryFrame m args 2 = F0 m 0 ((lg_sl ([.ref (A 0), .int a1]) ++ List.replicate (2 - (lg_sl ([.ref (A 0), .int a1])).length) Slot.unset).toArray) [] := by rw [hargs]; exact lg_entry_eq m [.ref (A 0), .int a1] 2
  rw [hE]
  generalize (lg_sl ([.ref (A 0), .int a1]) ++ List.replicate (2 - (lg_sl ([.ref (A 0), .int a1])).length) Slot.unset).toArray = ls at hl ⊢
  have hl : lv_has ls 2 [(0, .ref (A 0)), (1, .int a1)] := hl
  unfold f_X7_many at hres
  refine lv_iload_n hx hb dX7_many_0 rfl (lv_at hl 1 rfl) ?_
  by_cases c1 : a1 = 0
  · replace hres := (if_pos c1).symm.trans hres
    refine lv_tableIn (off := 35) (tgt := 36) hx hb dX7_many_1 (by rw [c1]; decide) (by rw [c1]; decide) (by rw [c1]; decide) (by decide) ?_
    refine lv_aload_n hx hb dX7_many_36 rfl (lv_at hl 0 rfl) ?_
    refine gC_X7_house hx hb hts in7 hown hK hI (hts (.fieldLink RX7 12 "TrickHouse" "house" "LTrickHouse$House;") (by decide +kernel)) dX7_many_37 ?_
    refine gC_X1_articleCount hx hb hts in1 hown hK hI (hts (.fieldLink RX7 83 "TrickHouse$House" "articleCount" "I") (by decide +kernel)) dX7_many_40 ?_
    obtain rfl := hres
    exact W.iret hx hb hr (fun t ht hW => ⟨rfl, ht⟩) (fun _ h => absurd h List.not_mem_nil) dX7_many_43
  · replace hres := (if_neg c1).symm.trans hres
    by_cases c2 : a1 = 1
    · replace hres := (if_pos c2).symm.trans hres
      refine lv_tableIn (off := 43) (tgt := 44) hx hb dX7_many_1 (by rw [c2]; decide) (by rw [c2]; decide) (by rw [c2]; decide) (by decide) ?_
      refine lv_aload_n hx hb dX7_many_44 rfl (lv_at hl 0 rfl) ?_
      refine gC_X7_house hx hb hts in7 hown hK hI (hts (.fieldLink RX7 12 "TrickHouse" "house" "LTrickHouse$House;") (by decide +kernel)) dX7_many_45 ?_
      refine gC_X1_roomCount hx hb hts in1 hown hK hI (hts (.fieldLink RX7 241 "TrickHouse$House" "roomCount" "I") (by decide +kernel)) dX7_many_48 ?_
      obtain rfl := hres
      exact W.iret hx hb hr (fun t ht hW => ⟨rfl, ht⟩) (fun _ h => absurd h List.not_mem_nil) dX7_many_51
    · replace hres := (if_neg c2).symm.trans hres
      by_cases c3 : a1 = 2
      · replace hres := (if_pos c3).symm.trans hres
        refine lv_tableIn (off := 51) (tgt := 52) hx hb dX7_many_1 (by rw [c3]; decide) (by rw [c3]; decide) (by rw [c3]; decide) (by decide) ?_
        refine lv_aload_n hx hb dX7_many_52 rfl (lv_at hl 0 rfl) ?_
        refine gC_X7_house hx hb hts in7 hown hK hI (hts (.fieldLink RX7 12 "TrickHouse" "house" "LTrickHouse$House;") (by decide +kernel)) dX7_many_53 ?_
        refine gC_X1_present hx hb hts in1 hown hK hI (hts (.fieldLink RX7 111 "TrickHouse$House" "present" "I") (by decide +kernel)) dX7_many_56 ?_
        refine pu_s S (c_J6_bitCount_0f7a4 l (v 5) _ rfl) (va_cwS 1 hts gX7_many_J6_bitCount_0f7a4 rfl rfl rfl (by decide +kernel) ⟨Nat.le_of_ble_eq_true rfl, Nat.le_of_ble_eq_true rfl⟩) hN rfl hl.1 rfl (Nat.le_of_ble_eq_true rfl) dX7_many_59 ⟨Nat.zero_le _, Nat.zero_le _⟩ ?_
        obtain rfl := hres
        exact W.iret hx hb hr (fun t ht hW => ⟨rfl, ht⟩) (fun _ h => absurd h List.not_mem_nil) dX7_many_62
      · replace hres := (if_neg c3).symm.trans hres
        by_cases c5 : a1 = 3
        · replace hres := (if_pos c5).symm.trans hres
          refine lv_tableIn (off := 62) (tgt := 63) hx hb dX7_many_1 (by rw [c5]; decide) (by rw [c5]; decide) (by rw [c5]; decide) (by decide) ?_
          refine lv_aload_n hx hb dX7_many_63 rfl (lv_at hl 0 rfl) ?_
          refine gC_X7_house hx hb hts in7 hown hK hI (hts (.fieldLink RX7 12 "TrickHouse" "house" "LTrickHouse$House;") (by decide +kernel)) dX7_many_64 ?_
          refine gC_X1_corner hx hb hts in1 hown hK hI (hts (.fieldLink RX7 136 "TrickHouse$House" "corner" "I") (by decide +kernel)) dX7_many_67 ?_
          obtain rfl := hres
          exact W.iret hx hb hr (fun t ht hW => ⟨rfl, ht⟩) (fun _ h => absurd h List.not_mem_nil) dX7_many_70
        · replace hres := (if_neg c5).symm.trans hres
          by_cases c6 : a1 = 4
          · replace hres := (if_pos c6).symm.trans hres
            refine lv_tableIn (off := 70) (tgt := 71) hx hb dX7_many_1 (by rw [c6]; decide) (by rw [c6]; decide) (by rw [c6]; decide) (by decide) ?_
            refine lv_aload_n hx hb dX7_many_71 rfl (lv_at hl 0 rfl) ?_
            refine gC_X7_readings hx hb hts in7 hown hK hI (hts (.fieldLink RX7 21 "TrickHouse" "readings" "LTrickHouse$Readings;") (by decide +kernel)) dX7_many_72 ?_
            refine gC_X3_count hx hb hts in3 hown hK hI (hts (.fieldLink RX7 80 "TrickHouse$Readings" "count" "I") (by decide +kernel)) dX7_many_75 ?_
            obtain rfl := hres
            exact W.iret hx hb hr (fun t ht hW => ⟨rfl, ht⟩) (fun _ h => absurd h List.not_mem_nil) dX7_many_78
          · replace hres := (if_neg c6).symm.trans hres
            have e1 := lv_neT c1 (show (0 : Int32).toInt = 0 from rfl)
            have e2 := lv_neT c2 (show (1 : Int32).toInt = 1 from rfl)
            have e3 := lv_neT c3 (show (2 : Int32).toInt = 2 from rfl)
            have e5 := lv_neT c5 (show (3 : Int32).toInt = 3 from rfl)
            have e6 := lv_neT c6 (show (4 : Int32).toInt = 4 from rfl)
            refine lv_tableOut (tgt := 79) hx hb dX7_many_1 (by omega) (by decide) ?_
            refine lv_bipush (v := (-2)) hx hb dX7_many_79 (by decide) ?_
            obtain rfl := hres
            exact W.iret hx hb hr (fun t ht hW => ⟨rfl, ht⟩) (fun _ h => absurd h List.not_mem_nil) dX7_many_81
