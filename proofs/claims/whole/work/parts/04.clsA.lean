abbrev rm_X7_within : Room := { frames := 0, cells := 0, slots := 0, locals := 0 }
def f_X7_within (a0 : Int32) (a1 : Int32) (a2 : Int32) : Bool := (if a0 < a1 then (false) else (if a2 < a0 then (false) else (true)))
set_option maxHeartbeats 4000000 in
set_option maxRecDepth 100000 in
theorem c_X7_within (l : Launch) (a0 : Int32) (a1 : Int32) (a2 : Int32) (res : Bool) (hres : f_X7_within a0 a1 a2 = res) : Met l yX7_within wsX7_within rm_X7_within (va_Pc [.int a0, .int a1, .int a2] NW) (QR (.int (bI res))) 0 0 (fun _ => False) := by
  refine Met.ofW (cc := cX7_within) (maxL := 3) (ret := (some .boolean)) (by decide) rfl ?_
  intro p e s m args below meth c s₁ B hml hv
  obtain ⟨hargs, hN⟩ := hv
  have hx := B.exec
  have hb := B.bytes
  have hr := B.returns
  have hts := atoms_spec (ws := wsX7_within) B.pre
  have hown : s.vm.findClass RX7 = some m.cls := findClass_of_methodNamed B.named
  have hlocks := B.notSynchronized
  have hl := lv_entry ([.int a0, .int a1, .int a2]) (n := 3) (Nat.le_of_ble_eq_true rfl)
  have hE : entryFrame m args 3 = F0 m 0 ((lg_sl ([.int a0, .int a1, .int a2]) ++ List.replicate (3 - (lg_sl ([.int a0, .int a1, .int a2])).length) Slot.unset).toArray) [] := by rw [hargs]; exact lg_entry_eq m [.int a0, .int a1, .int a2] 3
  rw [hE]
  generalize (lg_sl ([.int a0, .int a1, .int a2]) ++ List.replicate (3 - (lg_sl ([.int a0, .int a1, .int a2])).length) Slot.unset).toArray = ls at hl ⊢
  have hl : lv_has ls 3 [(0, .int a0), (1, .int a1), (2, .int a2)] := hl
  unfold f_X7_within at hres
  refine lv_iload_n hx hb dX7_within_0 rfl (lv_at hl 0 rfl) ?_
  refine lv_iload_n hx hb dX7_within_1 rfl (lv_at hl 1 rfl) ?_
  refine lv_icmp_lt (tgt := 14) hx hb dX7_within_2 (by decide) (fun c1 => ?_) (fun c1 => ?_)
  · replace hres := (if_pos c1).symm.trans hres
    refine lv_iconst (v := 0) hx hb dX7_within_14 (by decide) ?_
    obtain rfl := hres
    exact W.zret hx hb hr rfl (fun t ht hW => ⟨rfl, ht⟩) (fun _ h => absurd h List.not_mem_nil) dX7_within_15
  · replace hres := (if_neg c1).symm.trans hres
    refine lv_iload_n hx hb dX7_within_5 rfl (lv_at hl 0 rfl) ?_
    refine lv_iload_n hx hb dX7_within_6 rfl (lv_at hl 2 rfl) ?_
    refine lv_icmp_gt (tgt := 14) hx hb dX7_within_7 (by decide) (fun c2 => ?_) (fun c2 => ?_)
    · replace hres := (if_pos c2).symm.trans hres
      refine lv_iconst (v := 0) hx hb dX7_within_14 (by decide) ?_
      obtain rfl := hres
      exact W.zret hx hb hr rfl (fun t ht hW => ⟨rfl, ht⟩) (fun _ h => absurd h List.not_mem_nil) dX7_within_15
    · replace hres := (if_neg c2).symm.trans hres
      refine lv_iconst (v := 1) hx hb dX7_within_10 (by decide) ?_
      refine lv_goto (tgt := 15) hx hb dX7_within_11 (by decide) ?_
      obtain rfl := hres
      exact W.zret hx hb hr rfl (fun t ht hW => ⟨rfl, ht⟩) (fun _ h => absurd h List.not_mem_nil) dX7_within_15
abbrev rm_X7_has : Room := { frames := 0, cells := 0, slots := 0, locals := 0 }
def f_X7_has (a0 : Int32) (a1 : Int32) : Bool := (if ((a0 >>> (a1 &&& 31)) &&& 1) = 0 then (false) else (true))
set_option maxHeartbeats 4000000 in
set_option maxRecDepth 100000 in
theorem c_X7_has (l : Launch) (a0 : Int32) (a1 : Int32) (res : Bool) (hres : f_X7_has a0 a1 = res) : Met l yX7_has wsX7_has rm_X7_has (va_Pc [.int a0, .int a1] NW) (QR (.int (bI res))) 0 0 (fun _ => False) := by
  refine Met.ofW (cc := cX7_has) (maxL := 2) (ret := (some .boolean)) (by decide) rfl ?_
  intro p e s m args below meth c s₁ B hml hv
  obtain ⟨hargs, hN⟩ := hv
  have hx := B.exec
  have hb := B.bytes
  have hr := B.returns
  have hts := atoms_spec (ws := wsX7_has) B.pre
  have hown : s.vm.findClass RX7 = some m.cls := findClass_of_methodNamed B.named
  have hlocks := B.notSynchronized
  have hl := lv_entry ([.int a0, .int a1]) (n := 2) (Nat.le_of_ble_eq_true rfl)
  have hE : entryFrame m args 2 = F0 m 0 ((lg_sl ([.int a0, .int a1]) ++ List.replicate (2 - (lg_sl ([.int a0, .int a1])).length) Slot.unset).toArray) [] := by rw [hargs]; exact lg_entry_eq m [.int a0, .int a1] 2
  rw [hE]
  generalize (lg_sl ([.int a0, .int a1]) ++ List.replicate (2 - (lg_sl ([.int a0, .int a1])).length) Slot.unset).toArray = ls at hl ⊢
  have hl : lv_has ls 2 [(0, .int a0), (1, .int a1)] := hl
  unfold f_X7_has at hres
  refine lv_iload_n hx hb dX7_has_0 rfl (lv_at hl 0 rfl) ?_
  refine lv_iload_n hx hb dX7_has_1 rfl (lv_at hl 1 rfl) ?_
  refine lv_ishr hx hb dX7_has_2 ?_
  refine lv_iconst (v := 1) hx hb dX7_has_3 (by decide) ?_
  refine lv_iand hx hb dX7_has_4 ?_
  refine lv_if_eq (tgt := 12) hx hb dX7_has_5 (by decide) (fun c1 => ?_) (fun c1 => ?_)
  · replace hres := (if_pos c1).symm.trans hres
    refine lv_iconst (v := 0) hx hb dX7_has_12 (by decide) ?_
    obtain rfl := hres
    exact W.zret hx hb hr rfl (fun t ht hW => ⟨rfl, ht⟩) (fun _ h => absurd h List.not_mem_nil) dX7_has_13
  · replace hres := (if_neg c1).symm.trans hres
    refine lv_iconst (v := 1) hx hb dX7_has_8 (by decide) ?_
    refine lv_goto (tgt := 13) hx hb dX7_has_9 (by decide) ?_
    obtain rfl := hres
    exact W.zret hx hb hr rfl (fun t ht hW => ⟨rfl, ht⟩) (fun _ h => absurd h List.not_mem_nil) dX7_has_13
abbrev rm_X7_isSheet : Room := { frames := 1, cells := 0, slots := 0, locals := 22 }
def f_X7_isSheet (a0 : Int32) : Bool := ((f_X7_within a0 (0 : Int32) (3 : Int32)))
set_option maxHeartbeats 4000000 in
set_option maxRecDepth 100000 in
theorem c_X7_isSheet (l : Launch) (a0 : Int32) (res : Bool) (hres : f_X7_isSheet a0 = res) : Met l yX7_isSheet wsX7_isSheet rm_X7_isSheet (va_Pc [.int a0] NW) (QR (.int (bI res))) 0 0 (fun _ => False) := by
  refine Met.ofW (cc := cX7_isSheet) (maxL := 1) (ret := (some .boolean)) (by decide) rfl ?_
  intro p e s m args below meth c s₁ B hml hv
  obtain ⟨hargs, hN⟩ := hv
  have hx := B.exec
  have hb := B.bytes
  have hr := B.returns
  have hts := atoms_spec (ws := wsX7_isSheet) B.pre
  have hown : s.vm.findClass RX7 = some m.cls := findClass_of_methodNamed B.named
  have hlocks := B.notSynchronized
  have S : CallFix p m c cX7_isSheet 1 s args wsX7_isSheet RX7 := ⟨hx, hb, hml, hown, hts⟩
  have hl := lv_entry ([.int a0]) (n := 1) (Nat.le_of_ble_eq_true rfl)
  have hE : entryFrame m args 1 = F0 m 0 ((lg_sl ([.int a0]) ++ List.replicate (1 - (lg_sl ([.int a0])).length) Slot.unset).toArray) [] := by rw [hargs]; exact lg_entry_eq m [.int a0] 1
  rw [hE]
  generalize (lg_sl ([.int a0]) ++ List.replicate (1 - (lg_sl ([.int a0])).length) Slot.unset).toArray = ls at hl ⊢
  have hl : lv_has ls 1 [(0, .int a0)] := hl
  unfold f_X7_isSheet at hres
  refine lv_iload_n hx hb dX7_isSheet_0 rfl (lv_at hl 0 rfl) ?_
  refine lv_iconst (v := 0) hx hb dX7_isSheet_1 (by decide) ?_
  refine lv_iconst (v := 3) hx hb dX7_isSheet_2 (by decide) ?_
  refine pu_s S (c_X7_within l a0 (0 : Int32) (3 : Int32) _ rfl) (va_cwS 3 hts gX7_isSheet_X7_within rfl rfl rfl (by decide +kernel) ⟨Nat.le_of_ble_eq_true rfl, Nat.le_of_ble_eq_true rfl⟩) hN rfl hl.1 rfl (Nat.le_of_ble_eq_true rfl) dX7_isSheet_3 ⟨Nat.zero_le _, Nat.zero_le _⟩ ?_
  obtain rfl := hres
  exact W.zret hx hb hr (bI_nar _) (fun t ht hW => ⟨rfl, ht⟩) (fun _ h => absurd h List.not_mem_nil) dX7_isSheet_6
abbrev rm_X7_isLane : Room := { frames := 1, cells := 0, slots := 0, locals := 22 }
def f_X7_isLane (a0 : Int32) : Bool := ((f_X7_within a0 (0 : Int32) (2 : Int32)))
set_option maxHeartbeats 4000000 in
set_option maxRecDepth 100000 in
theorem c_X7_isLane (l : Launch) (a0 : Int32) (res : Bool) (hres : f_X7_isLane a0 = res) : Met l yX7_isLane wsX7_isLane rm_X7_isLane (va_Pc [.int a0] NW) (QR (.int (bI res))) 0 0 (fun _ => False) := by
  refine Met.ofW (cc := cX7_isLane) (maxL := 1) (ret := (some .boolean)) (by decide) rfl ?_
  intro p e s m args below meth c s₁ B hml hv
  obtain ⟨hargs, hN⟩ := hv
  have hx := B.exec
  have hb := B.bytes
  have hr := B.returns
  have hts := atoms_spec (ws := wsX7_isLane) B.pre
  have hown : s.vm.findClass RX7 = some m.cls := findClass_of_methodNamed B.named
  have hlocks := B.notSynchronized
  have S : CallFix p m c cX7_isLane 1 s args wsX7_isLane RX7 := ⟨hx, hb, hml, hown, hts⟩
  have hl := lv_entry ([.int a0]) (n := 1) (Nat.le_of_ble_eq_true rfl)
  have hE : entryFrame m args 1 = F0 m 0 ((lg_sl ([.int a0]) ++ List.replicate (1 - (lg_sl ([.int a0])).length) Slot.unset).toArray) [] := by rw [hargs]; exact lg_entry_eq m [.int a0] 1
  rw [hE]
  generalize (lg_sl ([.int a0]) ++ List.replicate (1 - (lg_sl ([.int a0])).length) Slot.unset).toArray = ls at hl ⊢
  have hl : lv_has ls 1 [(0, .int a0)] := hl
  unfold f_X7_isLane at hres
  refine lv_iload_n hx hb dX7_isLane_0 rfl (lv_at hl 0 rfl) ?_
  refine lv_iconst (v := 0) hx hb dX7_isLane_1 (by decide) ?_
  refine lv_iconst (v := 2) hx hb dX7_isLane_2 (by decide) ?_
  refine pu_s S (c_X7_within l a0 (0 : Int32) (2 : Int32) _ rfl) (va_cwS 3 hts gX7_isLane_X7_within rfl rfl rfl (by decide +kernel) ⟨Nat.le_of_ble_eq_true rfl, Nat.le_of_ble_eq_true rfl⟩) hN rfl hl.1 rfl (Nat.le_of_ble_eq_true rfl) dX7_isLane_3 ⟨Nat.zero_le _, Nat.zero_le _⟩ ?_
  obtain rfl := hres
  exact W.zret hx hb hr (bI_nar _) (fun t ht hW => ⟨rfl, ht⟩) (fun _ h => absurd h List.not_mem_nil) dX7_isLane_6
abbrev rm_X7_isCorner : Room := { frames := 1, cells := 0, slots := 0, locals := 22 }
def f_X7_isCorner (a0 : Int32) : Bool := ((f_X7_within a0 (0 : Int32) (63 : Int32)))
set_option maxHeartbeats 4000000 in
set_option maxRecDepth 100000 in
theorem c_X7_isCorner (l : Launch) (a0 : Int32) (res : Bool) (hres : f_X7_isCorner a0 = res) : Met l yX7_isCorner wsX7_isCorner rm_X7_isCorner (va_Pc [.int a0] NW) (QR (.int (bI res))) 0 0 (fun _ => False) := by
  refine Met.ofW (cc := cX7_isCorner) (maxL := 1) (ret := (some .boolean)) (by decide) rfl ?_
  intro p e s m args below meth c s₁ B hml hv
  obtain ⟨hargs, hN⟩ := hv
  have hx := B.exec
  have hb := B.bytes
  have hr := B.returns
  have hts := atoms_spec (ws := wsX7_isCorner) B.pre
  have hown : s.vm.findClass RX7 = some m.cls := findClass_of_methodNamed B.named
  have hlocks := B.notSynchronized
  have S : CallFix p m c cX7_isCorner 1 s args wsX7_isCorner RX7 := ⟨hx, hb, hml, hown, hts⟩
  have hl := lv_entry ([.int a0]) (n := 1) (Nat.le_of_ble_eq_true rfl)
  have hE : entryFrame m args 1 = F0 m 0 ((lg_sl ([.int a0]) ++ List.replicate (1 - (lg_sl ([.int a0])).length) Slot.unset).toArray) [] := by rw [hargs]; exact lg_entry_eq m [.int a0] 1
  rw [hE]
  generalize (lg_sl ([.int a0]) ++ List.replicate (1 - (lg_sl ([.int a0])).length) Slot.unset).toArray = ls at hl ⊢
  have hl : lv_has ls 1 [(0, .int a0)] := hl
  unfold f_X7_isCorner at hres
  refine lv_iload_n hx hb dX7_isCorner_0 rfl (lv_at hl 0 rfl) ?_
  refine lv_iconst (v := 0) hx hb dX7_isCorner_1 (by decide) ?_
  refine lv_bipush (v := 63) hx hb dX7_isCorner_2 (by decide) ?_
  refine pu_s S (c_X7_within l a0 (0 : Int32) (63 : Int32) _ rfl) (va_cwS 3 hts gX7_isCorner_X7_within rfl rfl rfl (by decide +kernel) ⟨Nat.le_of_ble_eq_true rfl, Nat.le_of_ble_eq_true rfl⟩) hN rfl hl.1 rfl (Nat.le_of_ble_eq_true rfl) dX7_isCorner_4 ⟨Nat.zero_le _, Nat.zero_le _⟩ ?_
  obtain rfl := hres
  exact W.zret hx hb hr (bI_nar _) (fun t ht hW => ⟨rfl, ht⟩) (fun _ h => absurd h List.not_mem_nil) dX7_isCorner_7
abbrev rm_X7_carried : Room := { frames := 1, cells := 0, slots := 0, locals := 24 }
def f_X7_carried (a0 : Int32) (a1 : Int32) (a2 : Int32) : Int32 := ((if 0 < ((a0 - (if 0 ≤ ((a1 - a1 / 8 * 8) - (a2 - a2 / 8 * 8)) then ((a1 - a1 / 8 * 8) - (a2 - a2 / 8 * 8)) else 0 - ((a1 - a1 / 8 * 8) - (a2 - a2 / 8 * 8)))) - (if 0 ≤ ((a1 / 8) - (a2 / 8)) then ((a1 / 8) - (a2 / 8)) else 0 - ((a1 / 8) - (a2 / 8)))) then ((a0 - (if 0 ≤ ((a1 - a1 / 8 * 8) - (a2 - a2 / 8 * 8)) then ((a1 - a1 / 8 * 8) - (a2 - a2 / 8 * 8)) else 0 - ((a1 - a1 / 8 * 8) - (a2 - a2 / 8 * 8)))) - (if 0 ≤ ((a1 / 8) - (a2 / 8)) then ((a1 / 8) - (a2 / 8)) else 0 - ((a1 / 8) - (a2 / 8)))) else 0))
set_option maxHeartbeats 4000000 in
set_option maxRecDepth 100000 in
theorem c_X7_carried (l : Launch) (a0 : Int32) (a1 : Int32) (a2 : Int32) (res : Int32) (hres : f_X7_carried a0 a1 a2 = res) : Met l yX7_carried wsX7_carried rm_X7_carried (va_Pc [.int a0, .int a1, .int a2] NW) (QR (.int res)) 0 0 (fun _ => False) := by
  refine Met.ofW (cc := cX7_carried) (maxL := 5) (ret := (some .int)) (by decide) rfl ?_
  intro p e s m args below meth c s₁ B hml hv
  obtain ⟨hargs, hN⟩ := hv
  have hx := B.exec
  have hb := B.bytes
  have hr := B.returns
  have hts := atoms_spec (ws := wsX7_carried) B.pre
  have hown : s.vm.findClass RX7 = some m.cls := findClass_of_methodNamed B.named
  have hlocks := B.notSynchronized
  have hl := lv_entry ([.int a0, .int a1, .int a2]) (n := 5) (Nat.le_of_ble_eq_true rfl)
  have hE : entryFrame m args 5 = F0 m 0 ((lg_sl ([.int a0, .int a1, .int a2]) ++ List.replicate (5 - (lg_sl ([.int a0, .int a1, .int a2])).length) Slot.unset).toArray) [] := by rw [hargs]; exact lg_entry_eq m [.int a0, .int a1, .int a2] 5
  rw [hE]
  generalize (lg_sl ([.int a0, .int a1, .int a2]) ++ List.replicate (5 - (lg_sl ([.int a0, .int a1, .int a2])).length) Slot.unset).toArray = ls at hl ⊢
  have hl : lv_has ls 5 [(0, .int a0), (1, .int a1), (2, .int a2)] := hl
  unfold f_X7_carried at hres
  refine lv_iload_n hx hb dX7_carried_0 rfl (lv_at hl 1 rfl) ?_
  refine lv_bipush (v := 8) hx hb dX7_carried_1 (by decide) ?_
  refine lv_irem hx hb dX7_carried_3 (by decide) ?_
  refine lv_iload_n hx hb dX7_carried_4 rfl (lv_at hl 2 rfl) ?_
  refine lv_bipush (v := 8) hx hb dX7_carried_5 (by decide) ?_
  refine lv_irem hx hb dX7_carried_7 (by decide) ?_
  refine lv_isub hx hb dX7_carried_8 ?_
  refine va_mabs hx hb (hml.trans hl.1.symm) hown (hts (.methodLink RX7 244 Lib.Math.abs.name) (by decide +kernel)) (hts (.static Lib.Math.abs.name) (by decide +kernel)) (hts (.initialized "java/lang/Math") (by decide +kernel)) (hts (.code Lib.Math.abs.name Lib.Math.abs.code 1 (some .int)) (List.mem_of_getElem? (i := 4) rfl)) (Nat.le_of_ble_eq_true rfl) (Nat.le_of_ble_eq_true rfl) (Nat.zero_le _) (Nat.zero_le _) dX7_carried_9 ?_
  refine lv_istore_n (lv' := [(3, .int (if 0 ≤ ((a1 - a1 / 8 * 8) - (a2 - a2 / 8 * 8)) then ((a1 - a1 / 8 * 8) - (a2 - a2 / 8 * 8)) else 0 - ((a1 - a1 / 8 * 8) - (a2 - a2 / 8 * 8)))), (0, .int a0), (1, .int a1), (2, .int a2)]) hx hb dX7_carried_12 rfl hl (by decide) rfl (fun ls hl => ?_)
  refine lv_iload_n hx hb dX7_carried_13 rfl (lv_at hl 2 rfl) ?_
  refine lv_bipush (v := 8) hx hb dX7_carried_14 (by decide) ?_
  refine lv_idiv hx hb dX7_carried_16 (by decide) ?_
  refine lv_iload_n hx hb dX7_carried_17 rfl (lv_at hl 3 rfl) ?_
  refine lv_bipush (v := 8) hx hb dX7_carried_18 (by decide) ?_
  refine lv_idiv hx hb dX7_carried_20 (by decide) ?_
  refine lv_isub hx hb dX7_carried_21 ?_
  refine va_mabs hx hb (hml.trans hl.1.symm) hown (hts (.methodLink RX7 244 Lib.Math.abs.name) (by decide +kernel)) (hts (.static Lib.Math.abs.name) (by decide +kernel)) (hts (.initialized "java/lang/Math") (by decide +kernel)) (hts (.code Lib.Math.abs.name Lib.Math.abs.code 1 (some .int)) (List.mem_of_getElem? (i := 4) rfl)) (Nat.le_of_ble_eq_true rfl) (Nat.le_of_ble_eq_true rfl) (Nat.zero_le _) (Nat.zero_le _) dX7_carried_22 ?_
  refine lv_istore (lv' := [(4, .int (if 0 ≤ ((a1 / 8) - (a2 / 8)) then ((a1 / 8) - (a2 / 8)) else 0 - ((a1 / 8) - (a2 / 8)))), (3, .int (if 0 ≤ ((a1 - a1 / 8 * 8) - (a2 - a2 / 8 * 8)) then ((a1 - a1 / 8 * 8) - (a2 - a2 / 8 * 8)) else 0 - ((a1 - a1 / 8 * 8) - (a2 - a2 / 8 * 8)))), (0, .int a0), (1, .int a1), (2, .int a2)]) hx hb dX7_carried_25 hl (by decide) rfl (fun ls hl => ?_)
  refine lv_iconst (v := 0) hx hb dX7_carried_27 (by decide) ?_
  refine lv_iload_n hx hb dX7_carried_28 rfl (lv_at hl 2 rfl) ?_
  refine lv_iload_n hx hb dX7_carried_29 rfl (lv_at hl 1 rfl) ?_
  refine lv_isub hx hb dX7_carried_30 ?_
  refine lv_iload hx hb dX7_carried_31 (lv_at hl 0 rfl) ?_
  refine lv_isub hx hb dX7_carried_33 ?_
  refine va_mmax hx hb (hml.trans hl.1.symm) hown (hts (.methodLink RX7 249 Lib.Math.max.name) (by decide +kernel)) (hts (.static Lib.Math.max.name) (by decide +kernel)) (hts (.initialized "java/lang/Math") (by decide +kernel)) (hts (.code Lib.Math.max.name Lib.Math.max.code 2 (some .int)) (List.mem_of_getElem? (i := 7) rfl)) (Nat.le_of_ble_eq_true rfl) (Nat.le_of_ble_eq_true rfl) (Nat.zero_le _) (Nat.zero_le _) dX7_carried_34 ?_
  obtain rfl := hres
  exact W.iret hx hb hr (fun t ht hW => ⟨rfl, ht⟩) (fun _ h => absurd h List.not_mem_nil) dX7_carried_37
abbrev rm_X0_laughOfKind : Room := { frames := 0, cells := 0, slots := 0, locals := 0 }
def f_X0_laughOfKind (a0 : Int32) (a1 : Int32) : Int32 := (if a0 = 1 then (if a1 ≤ 0 then (0) else ((a1 - 1))) else (if a0 = 2 then ((2 * a1)) else (a1)))
set_option maxHeartbeats 4000000 in
set_option maxRecDepth 100000 in
theorem c_X0_laughOfKind (l : Launch) (a0 : Int32) (a1 : Int32) (res : Int32) (hres : f_X0_laughOfKind a0 a1 = res) : Met l yX0_laughOfKind wsX0_laughOfKind rm_X0_laughOfKind (va_Pc [.int a0, .int a1] NW) (QR (.int res)) 0 0 (fun _ => False) := by
  refine Met.ofW (cc := cX0_laughOfKind) (maxL := 2) (ret := (some .int)) (by decide) rfl ?_
  intro p e s m args below meth c s₁ B hml hv
  obtain ⟨hargs, hN⟩ := hv
  have hx := B.exec
  have hb := B.bytes
  have hr := B.returns
  have hts := atoms_spec (ws := wsX0_laughOfKind) B.pre
  have hown : s.vm.findClass RX0 = some m.cls := findClass_of_methodNamed B.named
  have hlocks := B.notSynchronized
  have hl := lv_entry ([.int a0, .int a1]) (n := 2) (Nat.le_of_ble_eq_true rfl)
  have hE : entryFrame m args 2 = F0 m 0 ((lg_sl ([.int a0, .int a1]) ++ List.replicate (2 - (lg_sl ([.int a0, .int a1])).length) Slot.unset).toArray) [] := by rw [hargs]; exact lg_entry_eq m [.int a0, .int a1] 2
  rw [hE]
  generalize (lg_sl ([.int a0, .int a1]) ++ List.replicate (2 - (lg_sl ([.int a0, .int a1])).length) Slot.unset).toArray = ls at hl ⊢
  have hl : lv_has ls 2 [(0, .int a0), (1, .int a1)] := hl
  unfold f_X0_laughOfKind at hres
  refine lv_iload_n hx hb dX0_laughOfKind_0 rfl (lv_at hl 0 rfl) ?_
  by_cases c1 : a0 = 1
  · replace hres := (if_pos c1).symm.trans hres
    refine lv_lookup (off := 31) (tgt := 32) hx hb dX0_laughOfKind_1 (by decide) (by rw [c1]; decide) (by decide) ?_
    refine lv_iload_n hx hb dX0_laughOfKind_32 rfl (lv_at hl 1 rfl) ?_
    refine lv_if_le (tgt := 42) hx hb dX0_laughOfKind_33 (by decide) (fun c2 => ?_) (fun c2 => ?_)
    · replace hres := (if_pos c2).symm.trans hres
      refine lv_iconst (v := 0) hx hb dX0_laughOfKind_42 (by decide) ?_
      obtain rfl := hres
      exact W.iret hx hb hr (fun t ht hW => ⟨rfl, ht⟩) (fun _ h => absurd h List.not_mem_nil) dX0_laughOfKind_43
    · replace hres := (if_neg c2).symm.trans hres
      refine lv_iload_n hx hb dX0_laughOfKind_36 rfl (lv_at hl 1 rfl) ?_
      refine lv_iconst (v := 1) hx hb dX0_laughOfKind_37 (by decide) ?_
      refine lv_isub hx hb dX0_laughOfKind_38 ?_
      refine lv_goto (tgt := 43) hx hb dX0_laughOfKind_39 (by decide) ?_
      obtain rfl := hres
      exact W.iret hx hb hr (fun t ht hW => ⟨rfl, ht⟩) (fun _ h => absurd h List.not_mem_nil) dX0_laughOfKind_43
  · replace hres := (if_neg c1).symm.trans hres
    by_cases c3 : a0 = 2
    · replace hres := (if_pos c3).symm.trans hres
      refine lv_lookup (off := 27) (tgt := 28) hx hb dX0_laughOfKind_1 (by decide) (by rw [c3]; decide) (by decide) ?_
      refine lv_iconst (v := 2) hx hb dX0_laughOfKind_28 (by decide) ?_
      refine lv_iload_n hx hb dX0_laughOfKind_29 rfl (lv_at hl 1 rfl) ?_
      refine lv_imul hx hb dX0_laughOfKind_30 ?_
      obtain rfl := hres
      exact W.iret hx hb hr (fun t ht hW => ⟨rfl, ht⟩) (fun _ h => absurd h List.not_mem_nil) dX0_laughOfKind_31
    · replace hres := (if_neg c3).symm.trans hres
      refine lv_lookup (off := 43) (tgt := 44) hx hb dX0_laughOfKind_1 (by decide) ((lv_osw c1 rfl).trans ((lv_osw c3 rfl).trans rfl)) (by decide) ?_
      refine lv_iload_n hx hb dX0_laughOfKind_44 rfl (lv_at hl 1 rfl) ?_
      obtain rfl := hres
      exact W.iret hx hb hr (fun t ht hW => ⟨rfl, ht⟩) (fun _ h => absurd h List.not_mem_nil) dX0_laughOfKind_45
abbrev rm_X0_laugh : Room := { frames := 1, cells := 0, slots := 0, locals := 21 }
def f_X0_laugh (v : Nat → Int32) (r : Nat → Nat → Int32) (k0 : Nat) : Int32 := ((f_X0_laughOfKind (r 0 k0) (r 2 k0)))
set_option maxHeartbeats 4000000 in
set_option maxRecDepth 100000 in
theorem c_X0_laugh (l : Launch) (D : va_G) (cy : Nat → ClassId) (A : Nat → Nat) (X : va_W) (A0 : Nat → Prop) (v : Nat → Int32) (r : Nat → Nat → Int32) (k0 : Nat) (hk0 : k0 < 6) (res : Int32) (hres : f_X0_laugh v r k0 = res) : Met l yX0_laugh wsX0_laugh rm_X0_laugh (va_Pc [.ref (A (13 + k0))] (GW D (tyC cy) (pcC cy A v r ++ X) A0)) (QR (.int res)) 0 0 (fun _ => False) := by
  refine Met.ofW (cc := cX0_laugh) (maxL := 1) (ret := (some .int)) (by decide) rfl ?_
  intro p e s m args below meth c s₁ B hml hv
  obtain ⟨hargs, hP, hK, hD0, hN⟩ := hv
  have hx := B.exec
  have hb := B.bytes
  have hr := B.returns
  have hts := atoms_spec (ws := wsX0_laugh) B.pre
  have hown : s.vm.findClass RX0 = some m.cls := findClass_of_methodNamed B.named
  have hlocks := B.notSynchronized
  have hI : IW D (pcC cy A v r ++ X) A0 s.heap s.heap [] := ⟨hP, hD0, va_S.rf⟩
  have S : CallFix p m c cX0_laugh 1 s args wsX0_laugh RX0 := ⟨hx, hb, hml, hown, hts⟩
  have in0 : ∀ w ∈ wsX00, w ∈ wsX0_laugh := fun _ h => List.mem_cons_of_mem _ (List.mem_append_right _ h)
  have hl := lv_entry ([.ref (A (13 + k0))]) (n := 1) (Nat.le_of_ble_eq_true rfl)
  have hE : entryFrame m args 1 = F0 m 0 ((lg_sl ([.ref (A (13 + k0))]) ++ List.replicate (1 - (lg_sl ([.ref (A (13 + k0))])).length) Slot.unset).toArray) [] := by rw [hargs]; exact lg_entry_eq m [.ref (A (13 + k0))] 1
  rw [hE]
  generalize (lg_sl ([.ref (A (13 + k0))]) ++ List.replicate (1 - (lg_sl ([.ref (A (13 + k0))])).length) Slot.unset).toArray = ls at hl ⊢
  have hl : lv_has ls 1 [(0, .ref (A (13 + k0)))] := hl
  unfold f_X0_laugh at hres
  refine lv_aload_n hx hb dX0_laugh_0 rfl (lv_at hl 0 rfl) ?_
  refine gC_X0_kind hk0 hx hb hts in0 hown hK hI (hts (.fieldLink RX0 9 "TrickHouse$Article" "kind" "I") (by decide +kernel)) dX0_laugh_1 ?_
  refine lv_aload_n hx hb dX0_laugh_4 rfl (lv_at hl 0 rfl) ?_
  refine gC_X0_gaiety hk0 hx hb hts in0 hown hK hI (hts (.fieldLink RX0 15 "TrickHouse$Article" "gaiety" "I") (by decide +kernel)) dX0_laugh_5 ?_
  refine pu_s S (c_X0_laughOfKind l (r 0 k0) (r 2 k0) _ rfl) (va_cwS 2 hts gX0_laugh_X0_laughOfKind rfl rfl rfl (by decide +kernel) ⟨Nat.le_of_ble_eq_true rfl, Nat.le_of_ble_eq_true rfl⟩) hN rfl hl.1 rfl (Nat.le_of_ble_eq_true rfl) dX0_laugh_8 ⟨Nat.zero_le _, Nat.zero_le _⟩ ?_
  obtain rfl := hres
  exact W.iret hx hb hr (fun t ht hW => ⟨rfl, ht⟩) (fun _ h => absurd h List.not_mem_nil) dX0_laugh_11
abbrev rm_J6_bitCount_0f7a4 : Room := { frames := 0, cells := 0, slots := 0, locals := 0 }
def bc1 (a0 : Int32) : Int32 := (a0 - ((a0.toUInt32 >>> ((1 : Int32).toUInt32 &&& Int32.toUInt32 31)).toInt32 &&& (1431655765)))
def bc2 (a0 : Int32) : Int32 := (((bc1 a0) &&& (858993459)) + (((bc1 a0).toUInt32 >>> ((2 : Int32).toUInt32 &&& Int32.toUInt32 31)).toInt32 &&& (858993459)))
def bc3 (a0 : Int32) : Int32 := (((bc2 a0) + ((bc2 a0).toUInt32 >>> ((4 : Int32).toUInt32 &&& Int32.toUInt32 31)).toInt32) &&& (252645135))
def bc4 (a0 : Int32) : Int32 := ((bc3 a0) + ((bc3 a0).toUInt32 >>> ((8 : Int32).toUInt32 &&& Int32.toUInt32 31)).toInt32)
def bc5 (a0 : Int32) : Int32 := ((bc4 a0) + ((bc4 a0).toUInt32 >>> ((16 : Int32).toUInt32 &&& Int32.toUInt32 31)).toInt32)
def f_J6_bitCount_0f7a4 (a0 : Int32) : Int32 := (((bc5 a0) &&& 63))
set_option maxHeartbeats 4000000 in
set_option maxRecDepth 100000 in
theorem c_J6_bitCount_0f7a4 (l : Launch) (a0 : Int32) (res : Int32) (hres : f_J6_bitCount_0f7a4 a0 = res) : Met l yJ6_bitCount_0f7a4 wsJ6_bitCount_0f7a4 rm_J6_bitCount_0f7a4 (va_Pc [.int a0] NW) (QR (.int res)) 0 0 (fun _ => False) := by
  refine Met.ofW (cc := cJ6_bitCount_0f7a4) (maxL := 1) (ret := (some .int)) (by decide) rfl ?_
  intro p e s m args below meth c s₁ B hml hv
  obtain ⟨hargs, hN⟩ := hv
  have hx := B.exec
  have hb := B.bytes
  have hr := B.returns
  have hts := atoms_spec (ws := wsJ6_bitCount_0f7a4) B.pre
  have hown : s.vm.findClass RJ6 = some m.cls := findClass_of_methodNamed B.named
  have hlocks := B.notSynchronized
  have hl := lv_entry ([.int a0]) (n := 1) (Nat.le_of_ble_eq_true rfl)
  have hE : entryFrame m args 1 = F0 m 0 ((lg_sl ([.int a0]) ++ List.replicate (1 - (lg_sl ([.int a0])).length) Slot.unset).toArray) [] := by rw [hargs]; exact lg_entry_eq m [.int a0] 1
  rw [hE]
  generalize (lg_sl ([.int a0]) ++ List.replicate (1 - (lg_sl ([.int a0])).length) Slot.unset).toArray = ls at hl ⊢
  have hl : lv_has ls 1 [(0, .int a0)] := hl
  unfold f_J6_bitCount_0f7a4 at hres
  refine lv_iload_n hx hb dJ6_bitCount_0f7a4_0 rfl (lv_at hl 0 rfl) ?_
  refine lv_iload_n hx hb dJ6_bitCount_0f7a4_1 rfl (lv_at hl 0 rfl) ?_
  refine lv_iconst (v := 1) hx hb dJ6_bitCount_0f7a4_2 (by decide) ?_
  refine lv_iushr hx hb dJ6_bitCount_0f7a4_3 rfl ?_
  refine lv_ldcw hx hb hown (hts (.constant RJ6 265 (1431655765)) (by decide +kernel)) dJ6_bitCount_0f7a4_4 ?_
  refine lv_iand hx hb dJ6_bitCount_0f7a4_7 ?_
  refine lv_isub hx hb dJ6_bitCount_0f7a4_8 ?_
  refine lv_istore_n (lv' := [(0, .int (bc1 a0))]) hx hb dJ6_bitCount_0f7a4_9 rfl hl (by decide) rfl (fun ls hl => ?_)
  refine lv_iload_n hx hb dJ6_bitCount_0f7a4_10 rfl (lv_at hl 0 rfl) ?_
  refine lv_ldcw hx hb hown (hts (.constant RJ6 266 (858993459)) (by decide +kernel)) dJ6_bitCount_0f7a4_11 ?_
  refine lv_iand hx hb dJ6_bitCount_0f7a4_14 ?_
  refine lv_iload_n hx hb dJ6_bitCount_0f7a4_15 rfl (lv_at hl 0 rfl) ?_
  refine lv_iconst (v := 2) hx hb dJ6_bitCount_0f7a4_16 (by decide) ?_
  refine lv_iushr hx hb dJ6_bitCount_0f7a4_17 rfl ?_
  refine lv_ldcw hx hb hown (hts (.constant RJ6 266 (858993459)) (by decide +kernel)) dJ6_bitCount_0f7a4_18 ?_
  refine lv_iand hx hb dJ6_bitCount_0f7a4_21 ?_
  refine lv_iadd hx hb dJ6_bitCount_0f7a4_22 ?_
  refine lv_istore_n (lv' := [(0, .int (bc2 a0))]) hx hb dJ6_bitCount_0f7a4_23 rfl hl (by decide) rfl (fun ls hl => ?_)
  refine lv_iload_n hx hb dJ6_bitCount_0f7a4_24 rfl (lv_at hl 0 rfl) ?_
  refine lv_iload_n hx hb dJ6_bitCount_0f7a4_25 rfl (lv_at hl 0 rfl) ?_
  refine lv_iconst (v := 4) hx hb dJ6_bitCount_0f7a4_26 (by decide) ?_
  refine lv_iushr hx hb dJ6_bitCount_0f7a4_27 rfl ?_
  refine lv_iadd hx hb dJ6_bitCount_0f7a4_28 ?_
  refine lv_ldcw hx hb hown (hts (.constant RJ6 267 (252645135)) (by decide +kernel)) dJ6_bitCount_0f7a4_29 ?_
  refine lv_iand hx hb dJ6_bitCount_0f7a4_32 ?_
  refine lv_istore_n (lv' := [(0, .int (bc3 a0))]) hx hb dJ6_bitCount_0f7a4_33 rfl hl (by decide) rfl (fun ls hl => ?_)
  refine lv_iload_n hx hb dJ6_bitCount_0f7a4_34 rfl (lv_at hl 0 rfl) ?_
  refine lv_iload_n hx hb dJ6_bitCount_0f7a4_35 rfl (lv_at hl 0 rfl) ?_
  refine lv_bipush (v := 8) hx hb dJ6_bitCount_0f7a4_36 (by decide) ?_
  refine lv_iushr hx hb dJ6_bitCount_0f7a4_38 rfl ?_
  refine lv_iadd hx hb dJ6_bitCount_0f7a4_39 ?_
  refine lv_istore_n (lv' := [(0, .int (bc4 a0))]) hx hb dJ6_bitCount_0f7a4_40 rfl hl (by decide) rfl (fun ls hl => ?_)
  refine lv_iload_n hx hb dJ6_bitCount_0f7a4_41 rfl (lv_at hl 0 rfl) ?_
  refine lv_iload_n hx hb dJ6_bitCount_0f7a4_42 rfl (lv_at hl 0 rfl) ?_
  refine lv_bipush (v := 16) hx hb dJ6_bitCount_0f7a4_43 (by decide) ?_
  refine lv_iushr hx hb dJ6_bitCount_0f7a4_45 rfl ?_
  refine lv_iadd hx hb dJ6_bitCount_0f7a4_46 ?_
  refine lv_istore_n (lv' := [(0, .int (bc5 a0))]) hx hb dJ6_bitCount_0f7a4_47 rfl hl (by decide) rfl (fun ls hl => ?_)
  refine lv_iload_n hx hb dJ6_bitCount_0f7a4_48 rfl (lv_at hl 0 rfl) ?_
  refine lv_bipush (v := 63) hx hb dJ6_bitCount_0f7a4_49 (by decide) ?_
  refine lv_iand hx hb dJ6_bitCount_0f7a4_51 ?_
  obtain rfl := hres
  exact W.iret hx hb hr (fun t ht hW => ⟨rfl, ht⟩) (fun _ h => absurd h List.not_mem_nil) dJ6_bitCount_0f7a4_52
abbrev rm_X1_stands : Room := { frames := 0, cells := 0, slots := 0, locals := 0 }
def f_X1_stands (v : Nat → Int32) (r : Nat → Nat → Int32) : Bool := (if (v 2) ≤ 0 then (false) else (true))
set_option maxHeartbeats 4000000 in
set_option maxRecDepth 100000 in
theorem c_X1_stands (l : Launch) (D : va_G) (cy : Nat → ClassId) (A : Nat → Nat) (X : va_W) (A0 : Nat → Prop) (v : Nat → Int32) (r : Nat → Nat → Int32) (res : Bool) (hres : f_X1_stands v r = res) : Met l yX1_stands wsX1_stands rm_X1_stands (va_Pc [.ref (A 1)] (GW D (tyC cy) (pcC cy A v r ++ X) A0)) (QR (.int (bI res))) 0 0 (fun _ => False) := by
  refine Met.ofW (cc := cX1_stands) (maxL := 1) (ret := (some .boolean)) (by decide) rfl ?_
  intro p e s m args below meth c s₁ B hml hv
  obtain ⟨hargs, hP, hK, hD0, hN⟩ := hv
  have hx := B.exec
  have hb := B.bytes
  have hr := B.returns
  have hts := atoms_spec (ws := wsX1_stands) B.pre
  have hown : s.vm.findClass RX1 = some m.cls := findClass_of_methodNamed B.named
  have hlocks := B.notSynchronized
  have hI : IW D (pcC cy A v r ++ X) A0 s.heap s.heap [] := ⟨hP, hD0, va_S.rf⟩
  have in1 : ∀ w ∈ wsX10, w ∈ wsX1_stands := fun _ h => List.mem_cons_of_mem _ (List.mem_append_right _ h)
  have hl := lv_entry ([.ref (A 1)]) (n := 1) (Nat.le_of_ble_eq_true rfl)
  have hE : entryFrame m args 1 = F0 m 0 ((lg_sl ([.ref (A 1)]) ++ List.replicate (1 - (lg_sl ([.ref (A 1)])).length) Slot.unset).toArray) [] := by rw [hargs]; exact lg_entry_eq m [.ref (A 1)] 1
  rw [hE]
  generalize (lg_sl ([.ref (A 1)]) ++ List.replicate (1 - (lg_sl ([.ref (A 1)])).length) Slot.unset).toArray = ls at hl ⊢
  have hl : lv_has ls 1 [(0, .ref (A 1))] := hl
  unfold f_X1_stands at hres
  refine lv_aload_n hx hb dX1_stands_0 rfl (lv_at hl 0 rfl) ?_
  refine gC_X1_articleCount hx hb hts in1 hown hK hI (hts (.fieldLink RX1 22 "TrickHouse$House" "articleCount" "I") (by decide +kernel)) dX1_stands_1 ?_
  refine lv_if_le (tgt := 11) hx hb dX1_stands_4 (by decide) (fun c1 => ?_) (fun c1 => ?_)
  · replace hres := (if_pos c1).symm.trans hres
    refine lv_iconst (v := 0) hx hb dX1_stands_11 (by decide) ?_
    obtain rfl := hres
    exact W.zret hx hb hr rfl (fun t ht hW => ⟨rfl, ht⟩) (fun _ h => absurd h List.not_mem_nil) dX1_stands_12
  · replace hres := (if_neg c1).symm.trans hres
    refine lv_iconst (v := 1) hx hb dX1_stands_7 (by decide) ?_
    refine lv_goto (tgt := 12) hx hb dX1_stands_8 (by decide) ?_
    obtain rfl := hres
    exact W.zret hx hb hr rfl (fun t ht hW => ⟨rfl, ht⟩) (fun _ h => absurd h List.not_mem_nil) dX1_stands_12
abbrev rm_X1_isArticle : Room := { frames := 0, cells := 0, slots := 0, locals := 0 }
def f_X1_isArticle (v : Nat → Int32) (r : Nat → Nat → Int32) (a1 : Int32) : Bool := (if a1 < 0 then (false) else (if (v 2) ≤ a1 then (false) else (true)))
set_option maxHeartbeats 4000000 in
set_option maxRecDepth 100000 in
theorem c_X1_isArticle (l : Launch) (D : va_G) (cy : Nat → ClassId) (A : Nat → Nat) (X : va_W) (A0 : Nat → Prop) (v : Nat → Int32) (r : Nat → Nat → Int32) (a1 : Int32) (res : Bool) (hres : f_X1_isArticle v r a1 = res) : Met l yX1_isArticle wsX1_isArticle rm_X1_isArticle (va_Pc [.ref (A 1), .int a1] (GW D (tyC cy) (pcC cy A v r ++ X) A0)) (QR (.int (bI res))) 0 0 (fun _ => False) := by
  refine Met.ofW (cc := cX1_isArticle) (maxL := 2) (ret := (some .boolean)) (by decide) rfl ?_
  intro p e s m args below meth c s₁ B hml hv
  obtain ⟨hargs, hP, hK, hD0, hN⟩ := hv
  have hx := B.exec
  have hb := B.bytes
  have hr := B.returns
  have hts := atoms_spec (ws := wsX1_isArticle) B.pre
  have hown : s.vm.findClass RX1 = some m.cls := findClass_of_methodNamed B.named
  have hlocks := B.notSynchronized
  have hI : IW D (pcC cy A v r ++ X) A0 s.heap s.heap [] := ⟨hP, hD0, va_S.rf⟩
  have in1 : ∀ w ∈ wsX10, w ∈ wsX1_isArticle := fun _ h => List.mem_cons_of_mem _ (List.mem_append_right _ h)
  have hl := lv_entry ([.ref (A 1), .int a1]) (n := 2) (Nat.le_of_ble_eq_true rfl)
  have hE : entryFrame m args 2 = F0 m 0 ((lg_sl ([.ref (A 1), .int a1]) ++ List.replicate (2 - (lg_sl ([.ref (A 1), .int a1])).length) Slot.unset).toArray) [] := by rw [hargs]; exact lg_entry_eq m [.ref (A 1), .int a1] 2
  rw [hE]
  generalize (lg_sl ([.ref (A 1), .int a1]) ++ List.replicate (2 - (lg_sl ([.ref (A 1), .int a1])).length) Slot.unset).toArray = ls at hl ⊢
  have hl : lv_has ls 2 [(0, .ref (A 1)), (1, .int a1)] := hl
  unfold f_X1_isArticle at hres
  refine lv_iload_n hx hb dX1_isArticle_0 rfl (lv_at hl 1 rfl) ?_
  refine lv_if_lt (tgt := 16) hx hb dX1_isArticle_1 (by decide) (fun c1 => ?_) (fun c1 => ?_)
  · replace hres := (if_pos c1).symm.trans hres
    refine lv_iconst (v := 0) hx hb dX1_isArticle_16 (by decide) ?_
    obtain rfl := hres
    exact W.zret hx hb hr rfl (fun t ht hW => ⟨rfl, ht⟩) (fun _ h => absurd h List.not_mem_nil) dX1_isArticle_17
  · replace hres := (if_neg c1).symm.trans hres
    refine lv_iload_n hx hb dX1_isArticle_4 rfl (lv_at hl 1 rfl) ?_
    refine lv_aload_n hx hb dX1_isArticle_5 rfl (lv_at hl 0 rfl) ?_
    refine gC_X1_articleCount hx hb hts in1 hown hK hI (hts (.fieldLink RX1 22 "TrickHouse$House" "articleCount" "I") (by decide +kernel)) dX1_isArticle_6 ?_
    refine lv_icmp_ge (tgt := 16) hx hb dX1_isArticle_9 (by decide) (fun c2 => ?_) (fun c2 => ?_)
    · replace hres := (if_pos c2).symm.trans hres
      refine lv_iconst (v := 0) hx hb dX1_isArticle_16 (by decide) ?_
      obtain rfl := hres
      exact W.zret hx hb hr rfl (fun t ht hW => ⟨rfl, ht⟩) (fun _ h => absurd h List.not_mem_nil) dX1_isArticle_17
    · replace hres := (if_neg c2).symm.trans hres
      refine lv_iconst (v := 1) hx hb dX1_isArticle_12 (by decide) ?_
      refine lv_goto (tgt := 17) hx hb dX1_isArticle_13 (by decide) ?_
      obtain rfl := hres
      exact W.zret hx hb hr rfl (fun t ht hW => ⟨rfl, ht⟩) (fun _ h => absurd h List.not_mem_nil) dX1_isArticle_17
abbrev rm_X1_isRoom : Room := { frames := 0, cells := 0, slots := 0, locals := 0 }
def f_X1_isRoom (v : Nat → Int32) (r : Nat → Nat → Int32) (a1 : Int32) : Bool := (if a1 < 0 then (false) else (if (v 3) ≤ a1 then (false) else (true)))
set_option maxHeartbeats 4000000 in
set_option maxRecDepth 100000 in
theorem c_X1_isRoom (l : Launch) (D : va_G) (cy : Nat → ClassId) (A : Nat → Nat) (X : va_W) (A0 : Nat → Prop) (v : Nat → Int32) (r : Nat → Nat → Int32) (a1 : Int32) (res : Bool) (hres : f_X1_isRoom v r a1 = res) : Met l yX1_isRoom wsX1_isRoom rm_X1_isRoom (va_Pc [.ref (A 1), .int a1] (GW D (tyC cy) (pcC cy A v r ++ X) A0)) (QR (.int (bI res))) 0 0 (fun _ => False) := by
  refine Met.ofW (cc := cX1_isRoom) (maxL := 2) (ret := (some .boolean)) (by decide) rfl ?_
  intro p e s m args below meth c s₁ B hml hv
  obtain ⟨hargs, hP, hK, hD0, hN⟩ := hv
  have hx := B.exec
  have hb := B.bytes
  have hr := B.returns
  have hts := atoms_spec (ws := wsX1_isRoom) B.pre
  have hown : s.vm.findClass RX1 = some m.cls := findClass_of_methodNamed B.named
  have hlocks := B.notSynchronized
  have hI : IW D (pcC cy A v r ++ X) A0 s.heap s.heap [] := ⟨hP, hD0, va_S.rf⟩
  have in1 : ∀ w ∈ wsX10, w ∈ wsX1_isRoom := fun _ h => List.mem_cons_of_mem _ (List.mem_append_right _ h)
  have hl := lv_entry ([.ref (A 1), .int a1]) (n := 2) (Nat.le_of_ble_eq_true rfl)
  have hE : entryFrame m args 2 = F0 m 0 ((lg_sl ([.ref (A 1), .int a1]) ++ List.replicate (2 - (lg_sl ([.ref (A 1), .int a1])).length) Slot.unset).toArray) [] := by rw [hargs]; exact lg_entry_eq m [.ref (A 1), .int a1] 2
  rw [hE]
  generalize (lg_sl ([.ref (A 1), .int a1]) ++ List.replicate (2 - (lg_sl ([.ref (A 1), .int a1])).length) Slot.unset).toArray = ls at hl ⊢
  have hl : lv_has ls 2 [(0, .ref (A 1)), (1, .int a1)] := hl
  unfold f_X1_isRoom at hres
  refine lv_iload_n hx hb dX1_isRoom_0 rfl (lv_at hl 1 rfl) ?_
  refine lv_if_lt (tgt := 16) hx hb dX1_isRoom_1 (by decide) (fun c1 => ?_) (fun c1 => ?_)
  · replace hres := (if_pos c1).symm.trans hres
    refine lv_iconst (v := 0) hx hb dX1_isRoom_16 (by decide) ?_
    obtain rfl := hres
    exact W.zret hx hb hr rfl (fun t ht hW => ⟨rfl, ht⟩) (fun _ h => absurd h List.not_mem_nil) dX1_isRoom_17
  · replace hres := (if_neg c1).symm.trans hres
    refine lv_iload_n hx hb dX1_isRoom_4 rfl (lv_at hl 1 rfl) ?_
    refine lv_aload_n hx hb dX1_isRoom_5 rfl (lv_at hl 0 rfl) ?_
    refine gC_X1_roomCount hx hb hts in1 hown hK hI (hts (.fieldLink RX1 26 "TrickHouse$House" "roomCount" "I") (by decide +kernel)) dX1_isRoom_6 ?_
    refine lv_icmp_ge (tgt := 16) hx hb dX1_isRoom_9 (by decide) (fun c2 => ?_) (fun c2 => ?_)
    · replace hres := (if_pos c2).symm.trans hres
      refine lv_iconst (v := 0) hx hb dX1_isRoom_16 (by decide) ?_
      obtain rfl := hres
      exact W.zret hx hb hr rfl (fun t ht hW => ⟨rfl, ht⟩) (fun _ h => absurd h List.not_mem_nil) dX1_isRoom_17
    · replace hres := (if_neg c2).symm.trans hres
      refine lv_iconst (v := 1) hx hb dX1_isRoom_12 (by decide) ?_
      refine lv_goto (tgt := 17) hx hb dX1_isRoom_13 (by decide) ?_
      obtain rfl := hres
      exact W.zret hx hb hr rfl (fun t ht hW => ⟨rfl, ht⟩) (fun _ h => absurd h List.not_mem_nil) dX1_isRoom_17
abbrev rm_X1_isSet : Room := { frames := 0, cells := 0, slots := 0, locals := 0 }
def f_X1_isSet (v : Nat → Int32) (r : Nat → Nat → Int32) (a1 : Int32) : Bool := (if a1 < 0 then (false) else (if ((1 : Int32) <<< ((v 2) &&& 31)) ≤ a1 then (false) else (true)))
set_option maxHeartbeats 4000000 in
set_option maxRecDepth 100000 in
theorem c_X1_isSet (l : Launch) (D : va_G) (cy : Nat → ClassId) (A : Nat → Nat) (X : va_W) (A0 : Nat → Prop) (v : Nat → Int32) (r : Nat → Nat → Int32) (a1 : Int32) (res : Bool) (hres : f_X1_isSet v r a1 = res) : Met l yX1_isSet wsX1_isSet rm_X1_isSet (va_Pc [.ref (A 1), .int a1] (GW D (tyC cy) (pcC cy A v r ++ X) A0)) (QR (.int (bI res))) 0 0 (fun _ => False) := by
  refine Met.ofW (cc := cX1_isSet) (maxL := 2) (ret := (some .boolean)) (by decide) rfl ?_
  intro p e s m args below meth c s₁ B hml hv
  obtain ⟨hargs, hP, hK, hD0, hN⟩ := hv
  have hx := B.exec
  have hb := B.bytes
  have hr := B.returns
  have hts := atoms_spec (ws := wsX1_isSet) B.pre
  have hown : s.vm.findClass RX1 = some m.cls := findClass_of_methodNamed B.named
  have hlocks := B.notSynchronized
  have hI : IW D (pcC cy A v r ++ X) A0 s.heap s.heap [] := ⟨hP, hD0, va_S.rf⟩
  have in1 : ∀ w ∈ wsX10, w ∈ wsX1_isSet := fun _ h => List.mem_cons_of_mem _ (List.mem_append_right _ h)
  have hl := lv_entry ([.ref (A 1), .int a1]) (n := 2) (Nat.le_of_ble_eq_true rfl)
  have hE : entryFrame m args 2 = F0 m 0 ((lg_sl ([.ref (A 1), .int a1]) ++ List.replicate (2 - (lg_sl ([.ref (A 1), .int a1])).length) Slot.unset).toArray) [] := by rw [hargs]; exact lg_entry_eq m [.ref (A 1), .int a1] 2
  rw [hE]
  generalize (lg_sl ([.ref (A 1), .int a1]) ++ List.replicate (2 - (lg_sl ([.ref (A 1), .int a1])).length) Slot.unset).toArray = ls at hl ⊢
  have hl : lv_has ls 2 [(0, .ref (A 1)), (1, .int a1)] := hl
  unfold f_X1_isSet at hres
  refine lv_iload_n hx hb dX1_isSet_0 rfl (lv_at hl 1 rfl) ?_
  refine lv_if_lt (tgt := 18) hx hb dX1_isSet_1 (by decide) (fun c1 => ?_) (fun c1 => ?_)
  · replace hres := (if_pos c1).symm.trans hres
    refine lv_iconst (v := 0) hx hb dX1_isSet_18 (by decide) ?_
    obtain rfl := hres
    exact W.zret hx hb hr rfl (fun t ht hW => ⟨rfl, ht⟩) (fun _ h => absurd h List.not_mem_nil) dX1_isSet_19
  · replace hres := (if_neg c1).symm.trans hres
    refine lv_iload_n hx hb dX1_isSet_4 rfl (lv_at hl 1 rfl) ?_
    refine lv_iconst (v := 1) hx hb dX1_isSet_5 (by decide) ?_
    refine lv_aload_n hx hb dX1_isSet_6 rfl (lv_at hl 0 rfl) ?_
    refine gC_X1_articleCount hx hb hts in1 hown hK hI (hts (.fieldLink RX1 22 "TrickHouse$House" "articleCount" "I") (by decide +kernel)) dX1_isSet_7 ?_
    refine lv_ishl hx hb dX1_isSet_10 ?_
    refine lv_icmp_ge (tgt := 18) hx hb dX1_isSet_11 (by decide) (fun c2 => ?_) (fun c2 => ?_)
    · replace hres := (if_pos c2).symm.trans hres
      refine lv_iconst (v := 0) hx hb dX1_isSet_18 (by decide) ?_
      obtain rfl := hres
      exact W.zret hx hb hr rfl (fun t ht hW => ⟨rfl, ht⟩) (fun _ h => absurd h List.not_mem_nil) dX1_isSet_19
    · replace hres := (if_neg c2).symm.trans hres
      refine lv_iconst (v := 1) hx hb dX1_isSet_14 (by decide) ?_
      refine lv_goto (tgt := 19) hx hb dX1_isSet_15 (by decide) ?_
      obtain rfl := hres
      exact W.zret hx hb hr rfl (fun t ht hW => ⟨rfl, ht⟩) (fun _ h => absurd h List.not_mem_nil) dX1_isSet_19
abbrev rm_X1_laughOf : Room := { frames := 2, cells := 0, slots := 0, locals := 41 }
def f_X1_laughOf_4 (v : Nat → Int32) (r : Nat → Nat → Int32) (a1 : Int32) : Nat → Int32 → Int32 → Option Int32
  | 0, _, _ => none
  | n4 + 1, x2, x3 => (if (v 2) ≤ x3 then some (x2) else (if (f_X7_has a1 x3) = true then if inR x3 6 = true then f_X1_laughOf_4 v r a1 n4 (x2 + (f_X0_laugh v r x3.toNatClampNeg)) (x3 + 1) else none else f_X1_laughOf_4 v r a1 n4 x2 (x3 + 1)))
theorem f_X1_laughOf_4_s (v : Nat → Int32) (r : Nat → Nat → Int32) (a1 : Int32) (n4 : Nat) (x2 : Int32) (x3 : Int32) : f_X1_laughOf_4 v r a1 (n4 + 1) x2 x3 = (if (v 2) ≤ x3 then some (x2) else (if (f_X7_has a1 x3) = true then if inR x3 6 = true then f_X1_laughOf_4 v r a1 n4 (x2 + (f_X0_laugh v r x3.toNatClampNeg)) (x3 + 1) else none else f_X1_laughOf_4 v r a1 n4 x2 (x3 + 1))) := rfl
def f_X1_laughOf (v : Nat → Int32) (r : Nat → Nat → Int32) (a1 : Int32) : Option Int32 := f_X1_laughOf_4 v r a1 80 (0 : Int32) (0 : Int32)
set_option maxHeartbeats 4000000 in
set_option maxRecDepth 100000 in
theorem c_X1_laughOf (l : Launch) (D : va_G) (cy : Nat → ClassId) (A : Nat → Nat) (X : va_W) (A0 : Nat → Prop) (v : Nat → Int32) (r : Nat → Nat → Int32) (a1 : Int32) (res : Int32) (hres : f_X1_laughOf v r a1 = some res) : Met l yX1_laughOf wsX1_laughOf rm_X1_laughOf (va_Pc [.ref (A 1), .int a1] (GW D (tyC cy) (pcC cy A v r ++ X) A0)) (QR (.int res)) 0 0 (fun _ => False) := by
  refine Met.ofW (cc := cX1_laughOf) (maxL := 4) (ret := (some .int)) (by decide) rfl ?_
  intro p e s m args below meth c s₁ B hml hv
  obtain ⟨hargs, hP, hK, hD0, hN⟩ := hv
  have hx := B.exec
  have hb := B.bytes
  have hr := B.returns
  have hts := atoms_spec (ws := wsX1_laughOf) B.pre
  have hown : s.vm.findClass RX1 = some m.cls := findClass_of_methodNamed B.named
  have hlocks := B.notSynchronized
  have hI : IW D (pcC cy A v r ++ X) A0 s.heap s.heap [] := ⟨hP, hD0, va_S.rf⟩
  have S : CallFix p m c cX1_laughOf 4 s args wsX1_laughOf RX1 := ⟨hx, hb, hml, hown, hts⟩
  have in1 : ∀ w ∈ wsX10, w ∈ wsX1_laughOf := fun _ h => List.mem_cons_of_mem _ (List.mem_append_left _ (List.mem_append_right _ h))
  have hl := lv_entry ([.ref (A 1), .int a1]) (n := 4) (Nat.le_of_ble_eq_true rfl)
  have hE : entryFrame m args 4 = F0 m 0 ((lg_sl ([.ref (A 1), .int a1]) ++ List.replicate (4 - (lg_sl ([.ref (A 1), .int a1])).length) Slot.unset).toArray) [] := by rw [hargs]; exact lg_entry_eq m [.ref (A 1), .int a1] 4
  rw [hE]
  generalize (lg_sl ([.ref (A 1), .int a1]) ++ List.replicate (4 - (lg_sl ([.ref (A 1), .int a1])).length) Slot.unset).toArray = ls at hl ⊢
  have hl : lv_has ls 4 [(0, .ref (A 1)), (1, .int a1)] := hl
  unfold f_X1_laughOf at hres
  refine lv_iconst (v := 0) hx hb dX1_laughOf_0 (by decide) ?_
  refine lv_istore_n (lv' := [(2, .int 0), (0, .ref (A 1)), (1, .int a1)]) hx hb dX1_laughOf_1 rfl hl (by decide) rfl (fun ls hl => ?_)
  refine lv_iconst (v := 0) hx hb dX1_laughOf_2 (by decide) ?_
  refine lv_istore_n (lv' := [(3, .int 0), (2, .int 0), (0, .ref (A 1)), (1, .int a1)]) hx hb dX1_laughOf_3 rfl hl (by decide) rfl (fun ls hl => ?_)
  have w4 : ∀ (n4 : Nat) (x2 : Int32) (x3 : Int32), f_X1_laughOf_4 v r a1 n4 x2 x3 = some res → ∀ ls : Array Slot, lv_has ls 4 [(2, .int x2), (3, .int x3), (0, .ref (A 1)), (1, .int a1)] → W p l e (headSpec wsX1_laughOf rm_X1_laughOf).room s m args below meth c s.heap [] 0 0 (MQ below (QR (.int res)) args s 0 0 (fun _ => False)) (F0 m 4 ls []) := by
    intro n4
    induction n4 with
    | zero =>
      intro x2 x3  hres
      have hres : (none : Option Int32) = some res := hres
      cases hres
    | succ n4 ih4 =>
      intro x2 x3  hres ls hl
      replace hres := (f_X1_laughOf_4_s v r a1 n4 x2 x3).symm.trans hres
      refine lv_iload_n hx hb dX1_laughOf_4 rfl (lv_at hl 1 rfl) ?_
      refine lv_aload_n hx hb dX1_laughOf_5 rfl (lv_at hl 2 rfl) ?_
      refine gC_X1_articleCount hx hb hts in1 hown hK hI (hts (.fieldLink RX1 22 "TrickHouse$House" "articleCount" "I") (by decide +kernel)) dX1_laughOf_6 ?_
      refine lv_icmp_ge (tgt := 38) hx hb dX1_laughOf_9 (by decide) (fun c1 => ?_) (fun c1 => ?_)
      · replace hres := (if_pos c1).symm.trans hres
        refine lv_iload_n hx hb dX1_laughOf_38 rfl (lv_at hl 0 rfl) ?_
        obtain rfl := Option.some.inj hres
        exact W.iret hx hb hr (fun t ht hW => ⟨rfl, ht⟩) (fun _ h => absurd h List.not_mem_nil) dX1_laughOf_39
      · replace hres := (if_neg c1).symm.trans hres
        refine lv_iload_n hx hb dX1_laughOf_12 rfl (lv_at hl 3 rfl) ?_
        refine lv_iload_n hx hb dX1_laughOf_13 rfl (lv_at hl 1 rfl) ?_
        refine pu_n S (c_X7_has l a1 x3 _ rfl) ⟨va_cnB 2 hts gX1_laughOf_X7_has_n29 rfl rfl rfl hN.1 (hts (.initialized RX7) (by decide +kernel)) (by decide +kernel) ⟨Nat.le_of_ble_eq_true rfl, Nat.le_of_ble_eq_true rfl⟩, hts (.static yX7_has) (by decide +kernel), trivial⟩ hN rfl hl.1 rfl (Nat.le_of_ble_eq_true rfl) dX1_laughOf_14 ⟨Nat.zero_le _, Nat.zero_le _⟩ ?_
        refine lv_if_eq (tgt := 32) hx hb dX1_laughOf_17 (by decide) (fun c3 => ?_) (fun c3 => ?_)
        · replace hres := (if_neg (bI_f c3)).symm.trans hres
          refine lv_iinc (v := (x3 + 1)) (lv' := [(3, .int (x3 + 1)), (2, .int x2), (0, .ref (A 1)), (1, .int a1)]) hx hb dX1_laughOf_32 hl (k := 1) rfl rfl (by decide) rfl (fun ls hl => ?_)
          refine lv_goto (tgt := 4) hx hb dX1_laughOf_35 (by decide) ?_
          exact ih4 x2 (x3 + 1) hres ls (lv_sub hl [1, 0, 2, 3] rfl)
        · replace hres := (if_pos (bI_t c3)).symm.trans hres
          refine lv_iload_n hx hb dX1_laughOf_20 rfl (lv_at hl 0 rfl) ?_
          refine lv_aload_n hx hb dX1_laughOf_21 rfl (lv_at hl 2 rfl) ?_
          refine gC_X1_articles hx hb hts in1 hown hK hI (hts (.fieldLink RX1 11 "TrickHouse$House" "articles" "[LTrickHouse$Article;") (by decide +kernel)) dX1_laughOf_22 ?_
          refine lv_iload_n hx hb dX1_laughOf_25 rfl (lv_at hl 1 rfl) ?_
          obtain ⟨g4, hres⟩ := gd hres
          refine th_ald (f := fun k => A (13 + k)) hx hb hK hI 2 1 rfl rfl g4 dX1_laughOf_26 ?_
          refine ro_v S (c_X0_laugh l D cy A X A0 v r x3.toNatClampNeg (inR_lt g4) _ rfl) (cwV 0 hts gX1_laughOf_X0_laugh rfl rfl rfl (by decide +kernel) ⟨Nat.le_of_ble_eq_true rfl, Nat.le_of_ble_eq_true rfl⟩) hI hK hN (ci := 0) rfl (atC_art (inR_lt g4)) rfl rfl hl.1 rfl (Nat.le_of_ble_eq_true rfl) dX1_laughOf_27 ⟨Nat.zero_le _, Nat.zero_le _⟩ ?_
          refine lv_iadd hx hb dX1_laughOf_30 ?_
          refine lv_istore_n (lv' := [(2, .int (x2 + (f_X0_laugh v r x3.toNatClampNeg))), (3, .int x3), (0, .ref (A 1)), (1, .int a1)]) hx hb dX1_laughOf_31 rfl hl (by decide) rfl (fun ls hl => ?_)
          refine lv_iinc (v := (x3 + 1)) (lv' := [(3, .int (x3 + 1)), (2, .int (x2 + (f_X0_laugh v r x3.toNatClampNeg))), (0, .ref (A 1)), (1, .int a1)]) hx hb dX1_laughOf_32 hl (k := 1) rfl rfl (by decide) rfl (fun ls hl => ?_)
          refine lv_goto (tgt := 4) hx hb dX1_laughOf_35 (by decide) ?_
          exact ih4 (x2 + (f_X0_laugh v r x3.toNatClampNeg)) (x3 + 1) hres ls (lv_sub hl [1, 0, 2, 3] rfl)
  exact w4 80 (0 : Int32) (0 : Int32) hres ls (lv_sub hl [1, 0, 2, 3] rfl)
abbrev rm_X1_laughIf : Room := { frames := 3, cells := 0, slots := 0, locals := 64 }
def f_X1_laughIf (v : Nat → Int32) (r : Nat → Nat → Int32) (a1 : Int32) (a2 : Int32) (a3 : Int32) : Option Int32 := (f_X1_laughOf v r ((v 5) &&& (((1 : Int32) <<< (a1 &&& 31)) ^^^ (-1)))).bind (fun y1 => (if (f_X7_has (v 5) a1) = true then some ((y1 + (f_X0_laughOfKind a2 a3))) else some (y1)))
set_option maxHeartbeats 4000000 in
set_option maxRecDepth 100000 in
theorem c_X1_laughIf (l : Launch) (D : va_G) (cy : Nat → ClassId) (A : Nat → Nat) (X : va_W) (A0 : Nat → Prop) (v : Nat → Int32) (r : Nat → Nat → Int32) (a1 : Int32) (a2 : Int32) (a3 : Int32) (res : Int32) (hres : f_X1_laughIf v r a1 a2 a3 = some res) : Met l yX1_laughIf wsX1_laughIf rm_X1_laughIf (va_Pc [.ref (A 1), .int a1, .int a2, .int a3] (GW D (tyC cy) (pcC cy A v r ++ X) A0)) (QR (.int res)) 0 0 (fun _ => False) := by
  refine Met.ofW (cc := cX1_laughIf) (maxL := 5) (ret := (some .int)) (by decide) rfl ?_
  intro p e s m args below meth c s₁ B hml hv
  obtain ⟨hargs, hP, hK, hD0, hN⟩ := hv
  have hx := B.exec
  have hb := B.bytes
  have hr := B.returns
  have hts := atoms_spec (ws := wsX1_laughIf) B.pre
  have hown : s.vm.findClass RX1 = some m.cls := findClass_of_methodNamed B.named
  have hlocks := B.notSynchronized
  have hI : IW D (pcC cy A v r ++ X) A0 s.heap s.heap [] := ⟨hP, hD0, va_S.rf⟩
  have S : CallFix p m c cX1_laughIf 5 s args wsX1_laughIf RX1 := ⟨hx, hb, hml, hown, hts⟩
  have in1 : ∀ w ∈ wsX10, w ∈ wsX1_laughIf := fun _ h => List.mem_cons_of_mem _ (List.mem_append_left _ (List.mem_append_right _ h))
  have hl := lv_entry ([.ref (A 1), .int a1, .int a2, .int a3]) (n := 5) (Nat.le_of_ble_eq_true rfl)
  have hE : entryFrame m args 5 = F0 m 0 ((lg_sl ([.ref (A 1), .int a1, .int a2, .int a3]) ++ List.replicate (5 - (lg_sl ([.ref (A 1), .int a1, .int a2, .int a3])).length) Slot.unset).toArray) [] := by rw [hargs]; exact lg_entry_eq m [.ref (A 1), .int a1, .int a2, .int a3] 5
  rw [hE]
  generalize (lg_sl ([.ref (A 1), .int a1, .int a2, .int a3]) ++ List.replicate (5 - (lg_sl ([.ref (A 1), .int a1, .int a2, .int a3])).length) Slot.unset).toArray = ls at hl ⊢
  have hl : lv_has ls 5 [(0, .ref (A 1)), (1, .int a1), (2, .int a2), (3, .int a3)] := hl
  unfold f_X1_laughIf at hres
  refine lv_aload_n hx hb dX1_laughIf_0 rfl (lv_at hl 0 rfl) ?_
  refine lv_aload_n hx hb dX1_laughIf_1 rfl (lv_at hl 0 rfl) ?_
  refine gC_X1_present hx hb hts in1 hown hK hI (hts (.fieldLink RX1 37 "TrickHouse$House" "present" "I") (by decide +kernel)) dX1_laughIf_2 ?_
  refine lv_iconst (v := 1) hx hb dX1_laughIf_5 (by decide) ?_
  refine lv_iload_n hx hb dX1_laughIf_6 rfl (lv_at hl 1 rfl) ?_
  refine lv_ishl hx hb dX1_laughIf_7 ?_
  refine lv_iconst (v := (-1)) hx hb dX1_laughIf_8 (by decide) ?_
  refine lv_ixor hx hb dX1_laughIf_9 ?_
  refine lv_iand hx hb dX1_laughIf_10 ?_
  obtain ⟨y1, e1, hres⟩ := bd hres
  refine ro_v S (c_X1_laughOf l D cy A X A0 v r ((v 5) &&& (((1 : Int32) <<< (a1 &&& 31)) ^^^ (-1))) y1 e1) (cwV 1 hts gX1_laughIf_X1_laughOf rfl rfl rfl (by decide +kernel) ⟨Nat.le_of_ble_eq_true rfl, Nat.le_of_ble_eq_true rfl⟩) hI hK hN (ci := 1) rfl (atC_1) rfl rfl hl.1 rfl (Nat.le_of_ble_eq_true rfl) dX1_laughIf_11 ⟨Nat.zero_le _, Nat.zero_le _⟩ ?_
  refine lv_istore (lv' := [(4, .int y1), (0, .ref (A 1)), (1, .int a1), (2, .int a2), (3, .int a3)]) hx hb dX1_laughIf_14 hl (by decide) rfl (fun ls hl => ?_)
  refine lv_aload_n hx hb dX1_laughIf_16 rfl (lv_at hl 1 rfl) ?_
  refine gC_X1_present hx hb hts in1 hown hK hI (hts (.fieldLink RX1 37 "TrickHouse$House" "present" "I") (by decide +kernel)) dX1_laughIf_17 ?_
  refine lv_iload_n hx hb dX1_laughIf_20 rfl (lv_at hl 2 rfl) ?_
  refine pu_n S (c_X7_has l (v 5) a1 _ rfl) ⟨va_cnB 2 hts gX1_laughIf_X7_has_n29 rfl rfl rfl hN.1 (hts (.initialized RX7) (by decide +kernel)) (by decide +kernel) ⟨Nat.le_of_ble_eq_true rfl, Nat.le_of_ble_eq_true rfl⟩, hts (.static yX7_has) (by decide +kernel), trivial⟩ hN rfl hl.1 rfl (Nat.le_of_ble_eq_true rfl) dX1_laughIf_21 ⟨Nat.zero_le _, Nat.zero_le _⟩ ?_
  refine lv_if_eq (tgt := 38) hx hb dX1_laughIf_24 (by decide) (fun c3 => ?_) (fun c3 => ?_)
  · replace hres := (if_neg (bI_f c3)).symm.trans hres
    refine lv_iload hx hb dX1_laughIf_38 (lv_at hl 0 rfl) ?_
    obtain rfl := Option.some.inj hres
    exact W.iret hx hb hr (fun t ht hW => ⟨rfl, ht⟩) (fun _ h => absurd h List.not_mem_nil) dX1_laughIf_40
  · replace hres := (if_pos (bI_t c3)).symm.trans hres
    refine lv_iload hx hb dX1_laughIf_27 (lv_at hl 0 rfl) ?_
    refine lv_iload_n hx hb dX1_laughIf_29 rfl (lv_at hl 3 rfl) ?_
    refine lv_iload_n hx hb dX1_laughIf_30 rfl (lv_at hl 4 rfl) ?_
    refine pu_s S (c_X0_laughOfKind l a2 a3 _ rfl) (va_cwS 2 hts gX1_laughIf_X0_laughOfKind rfl rfl rfl (by decide +kernel) ⟨Nat.le_of_ble_eq_true rfl, Nat.le_of_ble_eq_true rfl⟩) hN rfl hl.1 rfl (Nat.le_of_ble_eq_true rfl) dX1_laughIf_31 ⟨Nat.zero_le _, Nat.zero_le _⟩ ?_
    refine lv_iadd hx hb dX1_laughIf_34 ?_
    refine lv_goto (tgt := 40) hx hb dX1_laughIf_35 (by decide) ?_
    obtain rfl := Option.some.inj hres
    exact W.iret hx hb hr (fun t ht hW => ⟨rfl, ht⟩) (fun _ h => absurd h List.not_mem_nil) dX1_laughIf_40
abbrev rm_X1_leaversOf : Room := { frames := 3, cells := 0, slots := 0, locals := 64 }
def f_X1_leaversOf_11 (v : Nat → Int32) (r : Nat → Nat → Int32) (a1 : Int32) : Nat → Int32 → Int32 → Int32 → Option Int32
  | 0, _, _, _ => none
  | n11 + 1, x2, x3, x4 => (if (v 2) ≤ x4 then some (x3) else (if (f_X7_has a1 x4) = true then if inR x4 6 = true then if inR x4 6 = true then (if (r 3 x4.toNatClampNeg) ≤ (x2 - (f_X0_laugh v r x4.toNatClampNeg)) then f_X1_leaversOf_11 v r a1 n11 x2 x3 (x4 + 1) else f_X1_leaversOf_11 v r a1 n11 x2 (x3 ||| ((1 : Int32) <<< (x4 &&& 31))) (x4 + 1)) else none else none else f_X1_leaversOf_11 v r a1 n11 x2 x3 (x4 + 1)))
theorem f_X1_leaversOf_11_s (v : Nat → Int32) (r : Nat → Nat → Int32) (a1 : Int32) (n11 : Nat) (x2 : Int32) (x3 : Int32) (x4 : Int32) : f_X1_leaversOf_11 v r a1 (n11 + 1) x2 x3 x4 = (if (v 2) ≤ x4 then some (x3) else (if (f_X7_has a1 x4) = true then if inR x4 6 = true then if inR x4 6 = true then (if (r 3 x4.toNatClampNeg) ≤ (x2 - (f_X0_laugh v r x4.toNatClampNeg)) then f_X1_leaversOf_11 v r a1 n11 x2 x3 (x4 + 1) else f_X1_leaversOf_11 v r a1 n11 x2 (x3 ||| ((1 : Int32) <<< (x4 &&& 31))) (x4 + 1)) else none else none else f_X1_leaversOf_11 v r a1 n11 x2 x3 (x4 + 1))) := rfl
def f_X1_leaversOf (v : Nat → Int32) (r : Nat → Nat → Int32) (a1 : Int32) : Option Int32 := (f_X1_laughOf v r a1).bind (fun y1 => f_X1_leaversOf_11 v r a1 80 y1 (0 : Int32) (0 : Int32))
set_option maxHeartbeats 4000000 in
set_option maxRecDepth 100000 in
theorem c_X1_leaversOf (l : Launch) (D : va_G) (cy : Nat → ClassId) (A : Nat → Nat) (X : va_W) (A0 : Nat → Prop) (v : Nat → Int32) (r : Nat → Nat → Int32) (a1 : Int32) (res : Int32) (hres : f_X1_leaversOf v r a1 = some res) : Met l yX1_leaversOf wsX1_leaversOf rm_X1_leaversOf (va_Pc [.ref (A 1), .int a1] (GW D (tyC cy) (pcC cy A v r ++ X) A0)) (QR (.int res)) 0 0 (fun _ => False) := by
  refine Met.ofW (cc := cX1_leaversOf) (maxL := 5) (ret := (some .int)) (by decide) rfl ?_
  intro p e s m args below meth c s₁ B hml hv
  obtain ⟨hargs, hP, hK, hD0, hN⟩ := hv
  have hx := B.exec
  have hb := B.bytes
  have hr := B.returns
  have hts := atoms_spec (ws := wsX1_leaversOf) B.pre
  have hown : s.vm.findClass RX1 = some m.cls := findClass_of_methodNamed B.named
  have hlocks := B.notSynchronized
  have hI : IW D (pcC cy A v r ++ X) A0 s.heap s.heap [] := ⟨hP, hD0, va_S.rf⟩
  have S : CallFix p m c cX1_leaversOf 5 s args wsX1_leaversOf RX1 := ⟨hx, hb, hml, hown, hts⟩
  have in0 : ∀ w ∈ wsX00, w ∈ wsX1_leaversOf := fun _ h => List.mem_cons_of_mem _ (List.mem_append_right _ h)
  have in1 : ∀ w ∈ wsX10, w ∈ wsX1_leaversOf := fun _ h => List.mem_cons_of_mem _ (List.mem_append_left _ (List.mem_append_right _ h))
  have hl := lv_entry ([.ref (A 1), .int a1]) (n := 5) (Nat.le_of_ble_eq_true rfl)
  have hE : entryFrame m args 5 = F0 m 0 ((lg_sl ([.ref (A 1), .int a1]) ++ List.replicate (5 - (lg_sl ([.ref (A 1), .int a1])).length) Slot.unset).toArray) [] := by rw [hargs]; exact lg_entry_eq m [.ref (A 1), .int a1] 5
  rw [hE]
  generalize (lg_sl ([.ref (A 1), .int a1]) ++ List.replicate (5 - (lg_sl ([.ref (A 1), .int a1])).length) Slot.unset).toArray = ls at hl ⊢
  have hl : lv_has ls 5 [(0, .ref (A 1)), (1, .int a1)] := hl
  unfold f_X1_leaversOf at hres
  refine lv_aload_n hx hb dX1_leaversOf_0 rfl (lv_at hl 0 rfl) ?_
  refine lv_iload_n hx hb dX1_leaversOf_1 rfl (lv_at hl 1 rfl) ?_
  obtain ⟨y1, e1, hres⟩ := bd hres
  refine ro_v S (c_X1_laughOf l D cy A X A0 v r a1 y1 e1) (cwV 1 hts gX1_leaversOf_X1_laughOf rfl rfl rfl (by decide +kernel) ⟨Nat.le_of_ble_eq_true rfl, Nat.le_of_ble_eq_true rfl⟩) hI hK hN (ci := 1) rfl (atC_1) rfl rfl hl.1 rfl (Nat.le_of_ble_eq_true rfl) dX1_leaversOf_2 ⟨Nat.zero_le _, Nat.zero_le _⟩ ?_
  refine lv_istore_n (lv' := [(2, .int y1), (0, .ref (A 1)), (1, .int a1)]) hx hb dX1_leaversOf_5 rfl hl (by decide) rfl (fun ls hl => ?_)
  refine lv_iconst (v := 0) hx hb dX1_leaversOf_6 (by decide) ?_
  refine lv_istore_n (lv' := [(3, .int 0), (2, .int y1), (0, .ref (A 1)), (1, .int a1)]) hx hb dX1_leaversOf_7 rfl hl (by decide) rfl (fun ls hl => ?_)
  refine lv_iconst (v := 0) hx hb dX1_leaversOf_8 (by decide) ?_
  refine lv_istore (lv' := [(4, .int 0), (3, .int 0), (2, .int y1), (0, .ref (A 1)), (1, .int a1)]) hx hb dX1_leaversOf_9 hl (by decide) rfl (fun ls hl => ?_)
  have w11 : ∀ (n11 : Nat) (x2 : Int32) (x3 : Int32) (x4 : Int32), f_X1_leaversOf_11 v r a1 n11 x2 x3 x4 = some res → ∀ ls : Array Slot, lv_has ls 5 [(2, .int x2), (3, .int x3), (4, .int x4), (0, .ref (A 1)), (1, .int a1)] → W p l e (headSpec wsX1_leaversOf rm_X1_leaversOf).room s m args below meth c s.heap [] 0 0 (MQ below (QR (.int res)) args s 0 0 (fun _ => False)) (F0 m 11 ls []) := by
    intro n11
    induction n11 with
    | zero =>
      intro x2 x3 x4  hres
      have hres : (none : Option Int32) = some res := hres
      cases hres
    | succ n11 ih11 =>
      intro x2 x3 x4  hres ls hl
      replace hres := (f_X1_leaversOf_11_s v r a1 n11 x2 x3 x4).symm.trans hres
      refine lv_iload hx hb dX1_leaversOf_11 (lv_at hl 2 rfl) ?_
      refine lv_aload_n hx hb dX1_leaversOf_13 rfl (lv_at hl 3 rfl) ?_
      refine gC_X1_articleCount hx hb hts in1 hown hK hI (hts (.fieldLink RX1 22 "TrickHouse$House" "articleCount" "I") (by decide +kernel)) dX1_leaversOf_14 ?_
      refine lv_icmp_ge (tgt := 67) hx hb dX1_leaversOf_17 (by decide) (fun c2 => ?_) (fun c2 => ?_)
      · replace hres := (if_pos c2).symm.trans hres
        refine lv_iload_n hx hb dX1_leaversOf_67 rfl (lv_at hl 1 rfl) ?_
        obtain rfl := Option.some.inj hres
        exact W.iret hx hb hr (fun t ht hW => ⟨rfl, ht⟩) (fun _ h => absurd h List.not_mem_nil) dX1_leaversOf_68
      · replace hres := (if_neg c2).symm.trans hres
        refine lv_iload_n hx hb dX1_leaversOf_20 rfl (lv_at hl 4 rfl) ?_
        refine lv_iload hx hb dX1_leaversOf_21 (lv_at hl 2 rfl) ?_
        refine pu_n S (c_X7_has l a1 x4 _ rfl) ⟨va_cnB 2 hts gX1_leaversOf_X7_has_n29 rfl rfl rfl hN.1 (hts (.initialized RX7) (by decide +kernel)) (by decide +kernel) ⟨Nat.le_of_ble_eq_true rfl, Nat.le_of_ble_eq_true rfl⟩, hts (.static yX7_has) (by decide +kernel), trivial⟩ hN rfl hl.1 rfl (Nat.le_of_ble_eq_true rfl) dX1_leaversOf_23 ⟨Nat.zero_le _, Nat.zero_le _⟩ ?_
        refine lv_if_eq (tgt := 61) hx hb dX1_leaversOf_26 (by decide) (fun c4 => ?_) (fun c4 => ?_)
        · replace hres := (if_neg (bI_f c4)).symm.trans hres
          refine lv_iinc (v := (x4 + 1)) (lv' := [(4, .int (x4 + 1)), (2, .int x2), (3, .int x3), (0, .ref (A 1)), (1, .int a1)]) hx hb dX1_leaversOf_61 hl (k := 2) rfl rfl (by decide) rfl (fun ls hl => ?_)
          refine lv_goto (tgt := 11) hx hb dX1_leaversOf_64 (by decide) ?_
          exact ih11 x2 x3 (x4 + 1) hres ls (lv_sub hl [1, 2, 0, 3, 4] rfl)
        · replace hres := (if_pos (bI_t c4)).symm.trans hres
          refine lv_iload_n hx hb dX1_leaversOf_29 rfl (lv_at hl 0 rfl) ?_
          refine lv_aload_n hx hb dX1_leaversOf_30 rfl (lv_at hl 3 rfl) ?_
          refine gC_X1_articles hx hb hts in1 hown hK hI (hts (.fieldLink RX1 11 "TrickHouse$House" "articles" "[LTrickHouse$Article;") (by decide +kernel)) dX1_leaversOf_31 ?_
          refine lv_iload hx hb dX1_leaversOf_34 (lv_at hl 2 rfl) ?_
          obtain ⟨g5, hres⟩ := gd hres
          refine th_ald (f := fun k => A (13 + k)) hx hb hK hI 2 1 rfl rfl g5 dX1_leaversOf_36 ?_
          refine ro_v S (c_X0_laugh l D cy A X A0 v r x4.toNatClampNeg (inR_lt g5) _ rfl) (cwV 0 hts gX1_leaversOf_X0_laugh rfl rfl rfl (by decide +kernel) ⟨Nat.le_of_ble_eq_true rfl, Nat.le_of_ble_eq_true rfl⟩) hI hK hN (ci := 0) rfl (atC_art (inR_lt g5)) rfl rfl hl.1 rfl (Nat.le_of_ble_eq_true rfl) dX1_leaversOf_37 ⟨Nat.zero_le _, Nat.zero_le _⟩ ?_
          refine lv_isub hx hb dX1_leaversOf_40 ?_
          refine lv_aload_n hx hb dX1_leaversOf_41 rfl (lv_at hl 3 rfl) ?_
          refine gC_X1_articles hx hb hts in1 hown hK hI (hts (.fieldLink RX1 11 "TrickHouse$House" "articles" "[LTrickHouse$Article;") (by decide +kernel)) dX1_leaversOf_42 ?_
          refine lv_iload hx hb dX1_leaversOf_45 (lv_at hl 2 rfl) ?_
          obtain ⟨g7, hres⟩ := gd hres
          refine th_ald (f := fun k => A (13 + k)) hx hb hK hI 2 1 rfl rfl g7 dX1_leaversOf_47 ?_
          refine gC_X0_longing (inR_lt g7) hx hb hts in0 hown hK hI (hts (.fieldLink RX1 51 "TrickHouse$Article" "longing" "I") (by decide +kernel)) dX1_leaversOf_48 ?_
          refine lv_icmp_ge (tgt := 61) hx hb dX1_leaversOf_51 (by decide) (fun c8 => ?_) (fun c8 => ?_)
          · replace hres := (if_pos c8).symm.trans hres
            refine lv_iinc (v := (x4 + 1)) (lv' := [(4, .int (x4 + 1)), (2, .int x2), (3, .int x3), (0, .ref (A 1)), (1, .int a1)]) hx hb dX1_leaversOf_61 hl (k := 2) rfl rfl (by decide) rfl (fun ls hl => ?_)
            refine lv_goto (tgt := 11) hx hb dX1_leaversOf_64 (by decide) ?_
            exact ih11 x2 x3 (x4 + 1) hres ls (lv_sub hl [1, 2, 0, 3, 4] rfl)
          · replace hres := (if_neg c8).symm.trans hres
            refine lv_iload_n hx hb dX1_leaversOf_54 rfl (lv_at hl 1 rfl) ?_
            refine lv_iconst (v := 1) hx hb dX1_leaversOf_55 (by decide) ?_
            refine lv_iload hx hb dX1_leaversOf_56 (lv_at hl 2 rfl) ?_
            refine lv_ishl hx hb dX1_leaversOf_58 ?_
            refine lv_ior hx hb dX1_leaversOf_59 ?_
            refine lv_istore_n (lv' := [(3, .int (x3 ||| ((1 : Int32) <<< (x4 &&& 31)))), (2, .int x2), (4, .int x4), (0, .ref (A 1)), (1, .int a1)]) hx hb dX1_leaversOf_60 rfl hl (by decide) rfl (fun ls hl => ?_)
            refine lv_iinc (v := (x4 + 1)) (lv' := [(4, .int (x4 + 1)), (3, .int (x3 ||| ((1 : Int32) <<< (x4 &&& 31)))), (2, .int x2), (0, .ref (A 1)), (1, .int a1)]) hx hb dX1_leaversOf_61 hl (k := 2) rfl rfl (by decide) rfl (fun ls hl => ?_)
            refine lv_goto (tgt := 11) hx hb dX1_leaversOf_64 (by decide) ?_
            exact ih11 x2 (x3 ||| ((1 : Int32) <<< (x4 &&& 31))) (x4 + 1) hres ls (lv_sub hl [2, 1, 0, 3, 4] rfl)
  exact w11 80 y1 (0 : Int32) (0 : Int32) hres ls (lv_sub hl [2, 1, 0, 3, 4] rfl)
abbrev rm_X1_companyOf : Room := { frames := 4, cells := 0, slots := 0, locals := 88 }
def f_X1_companyOf_4 (v : Nat → Int32) (r : Nat → Nat → Int32) (a1 : Int32) : Nat → Int32 → Int32 → Option Int32
  | 0, _, _ => none
  | n4 + 1, x2, x3 => (if 6 ≤ x3 then some (x2) else (f_X1_leaversOf v r x2).bind (fun y2 => (if y2 = 0 then some (x2) else f_X1_companyOf_4 v r a1 n4 (x2 &&& (y2 ^^^ (-1))) (x3 + 1))))
theorem f_X1_companyOf_4_s (v : Nat → Int32) (r : Nat → Nat → Int32) (a1 : Int32) (n4 : Nat) (x2 : Int32) (x3 : Int32) : f_X1_companyOf_4 v r a1 (n4 + 1) x2 x3 = (if 6 ≤ x3 then some (x2) else (f_X1_leaversOf v r x2).bind (fun y2 => (if y2 = 0 then some (x2) else f_X1_companyOf_4 v r a1 n4 (x2 &&& (y2 ^^^ (-1))) (x3 + 1)))) := rfl
def f_X1_companyOf (v : Nat → Int32) (r : Nat → Nat → Int32) (a1 : Int32) : Option Int32 := f_X1_companyOf_4 v r a1 80 a1 (0 : Int32)
set_option maxHeartbeats 4000000 in
set_option maxRecDepth 100000 in
theorem c_X1_companyOf (l : Launch) (D : va_G) (cy : Nat → ClassId) (A : Nat → Nat) (X : va_W) (A0 : Nat → Prop) (v : Nat → Int32) (r : Nat → Nat → Int32) (a1 : Int32) (res : Int32) (hres : f_X1_companyOf v r a1 = some res) : Met l yX1_companyOf wsX1_companyOf rm_X1_companyOf (va_Pc [.ref (A 1), .int a1] (GW D (tyC cy) (pcC cy A v r ++ X) A0)) (QR (.int res)) 0 0 (fun _ => False) := by
  refine Met.ofW (cc := cX1_companyOf) (maxL := 5) (ret := (some .int)) (by decide) rfl ?_
  intro p e s m args below meth c s₁ B hml hv
  obtain ⟨hargs, hP, hK, hD0, hN⟩ := hv
  have hx := B.exec
  have hb := B.bytes
  have hr := B.returns
  have hts := atoms_spec (ws := wsX1_companyOf) B.pre
  have hown : s.vm.findClass RX1 = some m.cls := findClass_of_methodNamed B.named
  have hlocks := B.notSynchronized
  have hI : IW D (pcC cy A v r ++ X) A0 s.heap s.heap [] := ⟨hP, hD0, va_S.rf⟩
  have S : CallFix p m c cX1_companyOf 5 s args wsX1_companyOf RX1 := ⟨hx, hb, hml, hown, hts⟩
  have hl := lv_entry ([.ref (A 1), .int a1]) (n := 5) (Nat.le_of_ble_eq_true rfl)
  have hE : entryFrame m args 5 = F0 m 0 ((lg_sl ([.ref (A 1), .int a1]) ++ List.replicate (5 - (lg_sl ([.ref (A 1), .int a1])).length) Slot.unset).toArray) [] := by rw [hargs]; exact lg_entry_eq m [.ref (A 1), .int a1] 5
  rw [hE]
  generalize (lg_sl ([.ref (A 1), .int a1]) ++ List.replicate (5 - (lg_sl ([.ref (A 1), .int a1])).length) Slot.unset).toArray = ls at hl ⊢
  have hl : lv_has ls 5 [(0, .ref (A 1)), (1, .int a1)] := hl
  unfold f_X1_companyOf at hres
  refine lv_iload_n hx hb dX1_companyOf_0 rfl (lv_at hl 1 rfl) ?_
  refine lv_istore_n (lv' := [(2, .int a1), (0, .ref (A 1)), (1, .int a1)]) hx hb dX1_companyOf_1 rfl hl (by decide) rfl (fun ls hl => ?_)
  refine lv_iconst (v := 0) hx hb dX1_companyOf_2 (by decide) ?_
  refine lv_istore_n (lv' := [(3, .int 0), (2, .int a1), (0, .ref (A 1)), (1, .int a1)]) hx hb dX1_companyOf_3 rfl hl (by decide) rfl (fun ls hl => ?_)
  have w4 : ∀ (n4 : Nat) (x2 : Int32) (x3 : Int32), f_X1_companyOf_4 v r a1 n4 x2 x3 = some res → ∀ ls : Array Slot, lv_has ls 5 [(2, .int x2), (3, .int x3), (0, .ref (A 1))] → W p l e (headSpec wsX1_companyOf rm_X1_companyOf).room s m args below meth c s.heap [] 0 0 (MQ below (QR (.int res)) args s 0 0 (fun _ => False)) (F0 m 4 ls []) := by
    intro n4
    induction n4 with
    | zero =>
      intro x2 x3  hres
      have hres : (none : Option Int32) = some res := hres
      cases hres
    | succ n4 ih4 =>
      intro x2 x3  hres ls hl
      replace hres := (f_X1_companyOf_4_s v r a1 n4 x2 x3).symm.trans hres
      refine lv_iload_n hx hb dX1_companyOf_4 rfl (lv_at hl 1 rfl) ?_
      refine lv_bipush (v := 6) hx hb dX1_companyOf_5 (by decide) ?_
      refine lv_icmp_ge (tgt := 38) hx hb dX1_companyOf_7 (by decide) (fun c1 => ?_) (fun c1 => ?_)
      · replace hres := (if_pos c1).symm.trans hres
        refine lv_iload_n hx hb dX1_companyOf_38 rfl (lv_at hl 0 rfl) ?_
        obtain rfl := Option.some.inj hres
        exact W.iret hx hb hr (fun t ht hW => ⟨rfl, ht⟩) (fun _ h => absurd h List.not_mem_nil) dX1_companyOf_39
      · replace hres := (if_neg c1).symm.trans hres
        refine lv_aload_n hx hb dX1_companyOf_10 rfl (lv_at hl 2 rfl) ?_
        refine lv_iload_n hx hb dX1_companyOf_11 rfl (lv_at hl 0 rfl) ?_
        obtain ⟨y2, e2, hres⟩ := bd hres
        refine ro_v S (c_X1_leaversOf l D cy A X A0 v r x2 y2 e2) (cwV 1 hts gX1_companyOf_X1_leaversOf rfl rfl rfl (by decide +kernel) ⟨Nat.le_of_ble_eq_true rfl, Nat.le_of_ble_eq_true rfl⟩) hI hK hN (ci := 1) rfl (atC_1) rfl rfl hl.1 rfl (Nat.le_of_ble_eq_true rfl) dX1_companyOf_12 ⟨Nat.zero_le _, Nat.zero_le _⟩ ?_
        refine lv_istore (lv' := [(4, .int y2), (2, .int x2), (3, .int x3), (0, .ref (A 1))]) hx hb dX1_companyOf_15 hl (by decide) rfl (fun ls hl => ?_)
        refine lv_iload hx hb dX1_companyOf_17 (lv_at hl 0 rfl) ?_
        refine lv_if_ne (tgt := 25) hx hb dX1_companyOf_19 (by decide) (fun c3 => ?_) (fun c3 => ?_)
        · replace hres := (if_neg c3).symm.trans hres
          refine lv_iload_n hx hb dX1_companyOf_25 rfl (lv_at hl 1 rfl) ?_
          refine lv_iload hx hb dX1_companyOf_26 (lv_at hl 0 rfl) ?_
          refine lv_iconst (v := (-1)) hx hb dX1_companyOf_28 (by decide) ?_
          refine lv_ixor hx hb dX1_companyOf_29 ?_
          refine lv_iand hx hb dX1_companyOf_30 ?_
          refine lv_istore_n (lv' := [(2, .int (x2 &&& (y2 ^^^ (-1)))), (4, .int y2), (3, .int x3), (0, .ref (A 1))]) hx hb dX1_companyOf_31 rfl hl (by decide) rfl (fun ls hl => ?_)
          refine lv_iinc (v := (x3 + 1)) (lv' := [(3, .int (x3 + 1)), (2, .int (x2 &&& (y2 ^^^ (-1)))), (4, .int y2), (0, .ref (A 1))]) hx hb dX1_companyOf_32 hl (k := 2) rfl rfl (by decide) rfl (fun ls hl => ?_)
          refine lv_goto (tgt := 4) hx hb dX1_companyOf_35 (by decide) ?_
          exact ih4 (x2 &&& (y2 ^^^ (-1))) (x3 + 1) hres ls (lv_sub hl [1, 0, 3] rfl)
        · replace hres := (if_pos c3).symm.trans hres
          refine lv_goto (tgt := 38) hx hb dX1_companyOf_22 (by decide) ?_
          refine lv_iload_n hx hb dX1_companyOf_38 rfl (lv_at hl 1 rfl) ?_
          obtain rfl := Option.some.inj hres
          exact W.iret hx hb hr (fun t ht hW => ⟨rfl, ht⟩) (fun _ h => absurd h List.not_mem_nil) dX1_companyOf_39
  exact w4 80 a1 (0 : Int32) hres ls (lv_sub hl [1, 0, 2] rfl)
abbrev rm_X1_keepCompanyOf : Room := { frames := 5, cells := 0, slots := 0, locals := 112 }
def f_X1_keepCompanyOf (v : Nat → Int32) (r : Nat → Nat → Int32) (a1 : Int32) : Option (Int32 × ST) := (f_X1_companyOf v r a1).bind (fun y1 => some ((a1 &&& (((upd v 5 y1) 5) ^^^ (-1))), ((upd v 5 y1), r)))
set_option maxHeartbeats 4000000 in
set_option maxRecDepth 100000 in
theorem c_X1_keepCompanyOf (l : Launch) (D : va_G) (cy : Nat → ClassId) (A : Nat → Nat) (X : va_W) (A0 : Nat → Prop) (v : Nat → Int32) (r : Nat → Nat → Int32) (a1 : Int32) (res : Int32) (v2 : Nat → Int32) (r2 : Nat → Nat → Int32) (hres : f_X1_keepCompanyOf v r a1 = some (res, (v2, r2))) : Met l yX1_keepCompanyOf wsX1_keepCompanyOf rm_X1_keepCompanyOf (va_Pc [.ref (A 1), .int a1] (GW D (tyC cy) (pcC cy A v r ++ X) A0)) (QW (some (.int res)) (GW D (tyC cy) (pcC cy A v2 r2 ++ X) A0) A0) 0 0 A0 := by
  refine Met.ofW (cc := cX1_keepCompanyOf) (maxL := 2) (ret := (some .int)) (by decide) rfl ?_
  intro p e s m args below meth c s₁ B hml hv
  obtain ⟨hargs, hP, hK, hD0, hN⟩ := hv
  have hx := B.exec
  have hb := B.bytes
  have hr := B.returns
  have hts := atoms_spec (ws := wsX1_keepCompanyOf) B.pre
  have hown : s.vm.findClass RX1 = some m.cls := findClass_of_methodNamed B.named
  have hlocks := B.notSynchronized
  have hI : IW D (pcC cy A v r ++ X) A0 s.heap s.heap [] := ⟨hP, hD0, va_S.rf⟩
  have S : CallFix p m c cX1_keepCompanyOf 2 s args wsX1_keepCompanyOf RX1 := ⟨hx, hb, hml, hown, hts⟩
  have in1 : ∀ w ∈ wsX10, w ∈ wsX1_keepCompanyOf := fun _ h => List.mem_cons_of_mem _ (List.mem_append_left _ (List.mem_append_right _ h))
  have hl := lv_entry ([.ref (A 1), .int a1]) (n := 2) (Nat.le_of_ble_eq_true rfl)
  have hE : entryFrame m args 2 = F0 m 0 ((lg_sl ([.ref (A 1), .int a1]) ++ List.replicate (2 - (lg_sl ([.ref (A 1), .int a1])).length) Slot.unset).toArray) [] := by rw [hargs]; exact lg_entry_eq m [.ref (A 1), .int a1] 2
  rw [hE]
  generalize (lg_sl ([.ref (A 1), .int a1]) ++ List.replicate (2 - (lg_sl ([.ref (A 1), .int a1])).length) Slot.unset).toArray = ls at hl ⊢
  have hl : lv_has ls 2 [(0, .ref (A 1)), (1, .int a1)] := hl
  unfold f_X1_keepCompanyOf at hres
  refine lv_aload_n hx hb dX1_keepCompanyOf_0 rfl (lv_at hl 0 rfl) ?_
  refine lv_aload_n hx hb dX1_keepCompanyOf_1 rfl (lv_at hl 0 rfl) ?_
  refine lv_iload_n hx hb dX1_keepCompanyOf_2 rfl (lv_at hl 1 rfl) ?_
  obtain ⟨y1, e1, hres⟩ := bd hres
  refine ro_v S (c_X1_companyOf l D cy A X A0 v r a1 y1 e1) (cwV 1 hts gX1_keepCompanyOf_X1_companyOf rfl rfl rfl (by decide +kernel) ⟨Nat.le_of_ble_eq_true rfl, Nat.le_of_ble_eq_true rfl⟩) hI hK hN (ci := 1) rfl (atC_1) rfl rfl hl.1 rfl (Nat.le_of_ble_eq_true rfl) dX1_keepCompanyOf_3 ⟨Nat.zero_le _, Nat.zero_le _⟩ ?_
  refine pC_X1_present hx hb hts in1 hown hK hI (hts (.fieldLink RX1 37 "TrickHouse$House" "present" "I") (by decide +kernel)) dX1_keepCompanyOf_6 (fun H locs hI => ?_)
  refine lv_iload_n hx hb dX1_keepCompanyOf_9 rfl (lv_at hl 1 rfl) ?_
  refine lv_aload_n hx hb dX1_keepCompanyOf_10 rfl (lv_at hl 0 rfl) ?_
  refine gC_X1_present hx hb hts in1 hown hK hI (hts (.fieldLink RX1 37 "TrickHouse$House" "present" "I") (by decide +kernel)) dX1_keepCompanyOf_11 ?_
  refine lv_iconst (v := (-1)) hx hb dX1_keepCompanyOf_14 (by decide) ?_
  refine lv_ixor hx hb dX1_keepCompanyOf_15 ?_
  refine lv_iand hx hb dX1_keepCompanyOf_16 ?_
  obtain ⟨rfl, rfl, rfl⟩ := pr3 hres
  exact W.iret hx hb hr (fun t ht hW => ⟨rfl, ⟨by rw [ht]; exact hI.1, va_K.moved hW.alike hK, hI.2.1, NW.warm hW hN⟩, hI.2.2.F ht⟩) hI.2.2.2.2 dX1_keepCompanyOf_17
abbrev rm_X1_fewestCalls : Room := { frames := 5, cells := 0, slots := 0, locals := 112 }
def f_X1_fewestCalls_10 (v : Nat → Int32) (r : Nat → Nat → Int32) (a1 : Int32) (a2 : Int32) : Nat → Int32 → Int32 → Int32 → Option Int32
  | 0, _, _, _ => none
  | n10 + 1, x3, x4, x5 => (if a2 < x5 then some (x3) else (if (x5 &&& (a2 ^^^ (-1))) = 0 then (if x4 ≤ (f_J6_bitCount_0f7a4 x5) then f_X1_fewestCalls_10 v r a1 a2 n10 x3 x4 (x5 + 1) else (f_X1_companyOf v r ((v 5) &&& (x5 ^^^ (-1)))).bind (fun y8 => (if (y8 &&& a1) = 0 then f_X1_fewestCalls_10 v r a1 a2 n10 x5 (f_J6_bitCount_0f7a4 x5) (x5 + 1) else f_X1_fewestCalls_10 v r a1 a2 n10 x3 x4 (x5 + 1)))) else f_X1_fewestCalls_10 v r a1 a2 n10 x3 x4 (x5 + 1)))
theorem f_X1_fewestCalls_10_s (v : Nat → Int32) (r : Nat → Nat → Int32) (a1 : Int32) (a2 : Int32) (n10 : Nat) (x3 : Int32) (x4 : Int32) (x5 : Int32) : f_X1_fewestCalls_10 v r a1 a2 (n10 + 1) x3 x4 x5 = (if a2 < x5 then some (x3) else (if (x5 &&& (a2 ^^^ (-1))) = 0 then (if x4 ≤ (f_J6_bitCount_0f7a4 x5) then f_X1_fewestCalls_10 v r a1 a2 n10 x3 x4 (x5 + 1) else (f_X1_companyOf v r ((v 5) &&& (x5 ^^^ (-1)))).bind (fun y8 => (if (y8 &&& a1) = 0 then f_X1_fewestCalls_10 v r a1 a2 n10 x5 (f_J6_bitCount_0f7a4 x5) (x5 + 1) else f_X1_fewestCalls_10 v r a1 a2 n10 x3 x4 (x5 + 1)))) else f_X1_fewestCalls_10 v r a1 a2 n10 x3 x4 (x5 + 1))) := rfl
def f_X1_fewestCalls (v : Nat → Int32) (r : Nat → Nat → Int32) (a1 : Int32) (a2 : Int32) : Option Int32 := f_X1_fewestCalls_10 v r a1 a2 80 ((-9) : Int32) (7 : Int32) (0 : Int32)
set_option maxHeartbeats 4000000 in
set_option maxRecDepth 100000 in
theorem c_X1_fewestCalls (l : Launch) (D : va_G) (cy : Nat → ClassId) (A : Nat → Nat) (X : va_W) (A0 : Nat → Prop) (v : Nat → Int32) (r : Nat → Nat → Int32) (a1 : Int32) (a2 : Int32) (res : Int32) (hres : f_X1_fewestCalls v r a1 a2 = some res) : Met l yX1_fewestCalls wsX1_fewestCalls rm_X1_fewestCalls (va_Pc [.ref (A 1), .int a1, .int a2] (GW D (tyC cy) (pcC cy A v r ++ X) A0)) (QR (.int res)) 0 0 (fun _ => False) := by
  refine Met.ofW (cc := cX1_fewestCalls) (maxL := 7) (ret := (some .int)) (by decide) rfl ?_
  intro p e s m args below meth c s₁ B hml hv
  obtain ⟨hargs, hP, hK, hD0, hN⟩ := hv
  have hx := B.exec
  have hb := B.bytes
  have hr := B.returns
  have hts := atoms_spec (ws := wsX1_fewestCalls) B.pre
  have hown : s.vm.findClass RX1 = some m.cls := findClass_of_methodNamed B.named
  have hlocks := B.notSynchronized
  have hI : IW D (pcC cy A v r ++ X) A0 s.heap s.heap [] := ⟨hP, hD0, va_S.rf⟩
  have S : CallFix p m c cX1_fewestCalls 7 s args wsX1_fewestCalls RX1 := ⟨hx, hb, hml, hown, hts⟩
  have in1 : ∀ w ∈ wsX10, w ∈ wsX1_fewestCalls := fun _ h => List.mem_cons_of_mem _ (List.mem_append_left _ (List.mem_append_right _ h))
  have hl := lv_entry ([.ref (A 1), .int a1, .int a2]) (n := 7) (Nat.le_of_ble_eq_true rfl)
  have hE : entryFrame m args 7 = F0 m 0 ((lg_sl ([.ref (A 1), .int a1, .int a2]) ++ List.replicate (7 - (lg_sl ([.ref (A 1), .int a1, .int a2])).length) Slot.unset).toArray) [] := by rw [hargs]; exact lg_entry_eq m [.ref (A 1), .int a1, .int a2] 7
  rw [hE]
  generalize (lg_sl ([.ref (A 1), .int a1, .int a2]) ++ List.replicate (7 - (lg_sl ([.ref (A 1), .int a1, .int a2])).length) Slot.unset).toArray = ls at hl ⊢
  have hl : lv_has ls 7 [(0, .ref (A 1)), (1, .int a1), (2, .int a2)] := hl
  unfold f_X1_fewestCalls at hres
  refine lv_bipush (v := (-9)) hx hb dX1_fewestCalls_0 (by decide) ?_
  refine lv_istore_n (lv' := [(3, .int (-9)), (0, .ref (A 1)), (1, .int a1), (2, .int a2)]) hx hb dX1_fewestCalls_2 rfl hl (by decide) rfl (fun ls hl => ?_)
  refine lv_bipush (v := 7) hx hb dX1_fewestCalls_3 (by decide) ?_
  refine lv_istore (lv' := [(4, .int 7), (3, .int (-9)), (0, .ref (A 1)), (1, .int a1), (2, .int a2)]) hx hb dX1_fewestCalls_5 hl (by decide) rfl (fun ls hl => ?_)
  refine lv_iconst (v := 0) hx hb dX1_fewestCalls_7 (by decide) ?_
  refine lv_istore (lv' := [(5, .int 0), (4, .int 7), (3, .int (-9)), (0, .ref (A 1)), (1, .int a1), (2, .int a2)]) hx hb dX1_fewestCalls_8 hl (by decide) rfl (fun ls hl => ?_)
  have w10 : ∀ (n10 : Nat) (x3 : Int32) (x4 : Int32) (x5 : Int32), f_X1_fewestCalls_10 v r a1 a2 n10 x3 x4 x5 = some res → ∀ ls : Array Slot, lv_has ls 7 [(3, .int x3), (4, .int x4), (5, .int x5), (0, .ref (A 1)), (1, .int a1), (2, .int a2)] → W p l e (headSpec wsX1_fewestCalls rm_X1_fewestCalls).room s m args below meth c s.heap [] 0 0 (MQ below (QR (.int res)) args s 0 0 (fun _ => False)) (F0 m 10 ls []) := by
    intro n10
    induction n10 with
    | zero =>
      intro x3 x4 x5  hres
      have hres : (none : Option Int32) = some res := hres
      cases hres
    | succ n10 ih10 =>
      intro x3 x4 x5  hres ls hl
      replace hres := (f_X1_fewestCalls_10_s v r a1 a2 n10 x3 x4 x5).symm.trans hres
      refine lv_iload hx hb dX1_fewestCalls_10 (lv_at hl 2 rfl) ?_
      refine lv_iload_n hx hb dX1_fewestCalls_12 rfl (lv_at hl 5 rfl) ?_
      refine lv_icmp_gt (tgt := 81) hx hb dX1_fewestCalls_13 (by decide) (fun c1 => ?_) (fun c1 => ?_)
      · replace hres := (if_pos c1).symm.trans hres
        refine lv_iload_n hx hb dX1_fewestCalls_81 rfl (lv_at hl 0 rfl) ?_
        obtain rfl := Option.some.inj hres
        exact W.iret hx hb hr (fun t ht hW => ⟨rfl, ht⟩) (fun _ h => absurd h List.not_mem_nil) dX1_fewestCalls_82
      · replace hres := (if_neg c1).symm.trans hres
        refine lv_iload hx hb dX1_fewestCalls_16 (lv_at hl 2 rfl) ?_
        refine lv_iload_n hx hb dX1_fewestCalls_18 rfl (lv_at hl 5 rfl) ?_
        refine lv_iconst (v := (-1)) hx hb dX1_fewestCalls_19 (by decide) ?_
        refine lv_ixor hx hb dX1_fewestCalls_20 ?_
        refine lv_iand hx hb dX1_fewestCalls_21 ?_
        refine lv_if_ne (tgt := 39) hx hb dX1_fewestCalls_22 (by decide) (fun c2 => ?_) (fun c2 => ?_)
        · replace hres := (if_neg c2).symm.trans hres
          refine lv_iconst (v := 0) hx hb dX1_fewestCalls_39 (by decide) ?_
          refine lv_istore (lv' := [(6, .int 0), (3, .int x3), (4, .int x4), (5, .int x5), (0, .ref (A 1)), (1, .int a1), (2, .int a2)]) hx hb dX1_fewestCalls_40 hl (by decide) rfl (fun ls hl => ?_)
          refine lv_iload hx hb dX1_fewestCalls_42 (lv_at hl 0 rfl) ?_
          refine lv_if_eq (tgt := 75) hx hb dX1_fewestCalls_44 (by decide) (fun c3 => ?_) (fun c3 => absurd (by decide) c3)
          refine lv_iinc (v := (x5 + 1)) (lv' := [(5, .int (x5 + 1)), (6, .int 0), (3, .int x3), (4, .int x4), (0, .ref (A 1)), (1, .int a1), (2, .int a2)]) hx hb dX1_fewestCalls_75 hl (k := 3) rfl rfl (by decide) rfl (fun ls hl => ?_)
          refine lv_goto (tgt := 10) hx hb dX1_fewestCalls_78 (by decide) ?_
          exact ih10 x3 x4 (x5 + 1) hres ls (lv_sub hl [2, 3, 0, 4, 5, 6] rfl)
        · replace hres := (if_pos c2).symm.trans hres
          refine lv_iload hx hb dX1_fewestCalls_25 (lv_at hl 2 rfl) ?_
          refine pu_s S (c_J6_bitCount_0f7a4 l x5 _ rfl) (va_cwS 1 hts gX1_fewestCalls_J6_bitCount_0f7a4 rfl rfl rfl (by decide +kernel) ⟨Nat.le_of_ble_eq_true rfl, Nat.le_of_ble_eq_true rfl⟩) hN rfl hl.1 rfl (Nat.le_of_ble_eq_true rfl) dX1_fewestCalls_27 ⟨Nat.zero_le _, Nat.zero_le _⟩ ?_
          refine lv_iload hx hb dX1_fewestCalls_30 (lv_at hl 1 rfl) ?_
          refine lv_icmp_ge (tgt := 39) hx hb dX1_fewestCalls_32 (by decide) (fun c5 => ?_) (fun c5 => ?_)
          · replace hres := (if_pos c5).symm.trans hres
            refine lv_iconst (v := 0) hx hb dX1_fewestCalls_39 (by decide) ?_
            refine lv_istore (lv' := [(6, .int 0), (3, .int x3), (4, .int x4), (5, .int x5), (0, .ref (A 1)), (1, .int a1), (2, .int a2)]) hx hb dX1_fewestCalls_40 hl (by decide) rfl (fun ls hl => ?_)
            refine lv_iload hx hb dX1_fewestCalls_42 (lv_at hl 0 rfl) ?_
            refine lv_if_eq (tgt := 75) hx hb dX1_fewestCalls_44 (by decide) (fun c6 => ?_) (fun c6 => absurd (by decide) c6)
            refine lv_iinc (v := (x5 + 1)) (lv' := [(5, .int (x5 + 1)), (6, .int 0), (3, .int x3), (4, .int x4), (0, .ref (A 1)), (1, .int a1), (2, .int a2)]) hx hb dX1_fewestCalls_75 hl (k := 3) rfl rfl (by decide) rfl (fun ls hl => ?_)
            refine lv_goto (tgt := 10) hx hb dX1_fewestCalls_78 (by decide) ?_
            exact ih10 x3 x4 (x5 + 1) hres ls (lv_sub hl [2, 3, 0, 4, 5, 6] rfl)
          · replace hres := (if_neg c5).symm.trans hres
            refine lv_iconst (v := 1) hx hb dX1_fewestCalls_35 (by decide) ?_
            refine lv_goto (tgt := 40) hx hb dX1_fewestCalls_36 (by decide) ?_
            refine lv_istore (lv' := [(6, .int 1), (3, .int x3), (4, .int x4), (5, .int x5), (0, .ref (A 1)), (1, .int a1), (2, .int a2)]) hx hb dX1_fewestCalls_40 hl (by decide) rfl (fun ls hl => ?_)
            refine lv_iload hx hb dX1_fewestCalls_42 (lv_at hl 0 rfl) ?_
            refine lv_if_eq (tgt := 75) hx hb dX1_fewestCalls_44 (by decide) (fun c7 => absurd c7 (by decide)) (fun c7 => ?_)
            refine lv_aload_n hx hb dX1_fewestCalls_47 rfl (lv_at hl 4 rfl) ?_
            refine lv_aload_n hx hb dX1_fewestCalls_48 rfl (lv_at hl 4 rfl) ?_
            refine gC_X1_present hx hb hts in1 hown hK hI (hts (.fieldLink RX1 37 "TrickHouse$House" "present" "I") (by decide +kernel)) dX1_fewestCalls_49 ?_
            refine lv_iload hx hb dX1_fewestCalls_52 (lv_at hl 3 rfl) ?_
            refine lv_iconst (v := (-1)) hx hb dX1_fewestCalls_54 (by decide) ?_
            refine lv_ixor hx hb dX1_fewestCalls_55 ?_
            refine lv_iand hx hb dX1_fewestCalls_56 ?_
            obtain ⟨y8, e8, hres⟩ := bd hres
            refine ro_v S (c_X1_companyOf l D cy A X A0 v r ((v 5) &&& (x5 ^^^ (-1))) y8 e8) (cwV 1 hts gX1_fewestCalls_X1_companyOf rfl rfl rfl (by decide +kernel) ⟨Nat.le_of_ble_eq_true rfl, Nat.le_of_ble_eq_true rfl⟩) hI hK hN (ci := 1) rfl (atC_1) rfl rfl hl.1 rfl (Nat.le_of_ble_eq_true rfl) dX1_fewestCalls_57 ⟨Nat.zero_le _, Nat.zero_le _⟩ ?_
            refine lv_iload_n hx hb dX1_fewestCalls_60 rfl (lv_at hl 5 rfl) ?_
            refine lv_iand hx hb dX1_fewestCalls_61 ?_
            refine lv_if_ne (tgt := 75) hx hb dX1_fewestCalls_62 (by decide) (fun c9 => ?_) (fun c9 => ?_)
            · replace hres := (if_neg c9).symm.trans hres
              refine lv_iinc (v := (x5 + 1)) (lv' := [(5, .int (x5 + 1)), (6, .int 1), (3, .int x3), (4, .int x4), (0, .ref (A 1)), (1, .int a1), (2, .int a2)]) hx hb dX1_fewestCalls_75 hl (k := 3) rfl rfl (by decide) rfl (fun ls hl => ?_)
              refine lv_goto (tgt := 10) hx hb dX1_fewestCalls_78 (by decide) ?_
              exact ih10 x3 x4 (x5 + 1) hres ls (lv_sub hl [2, 3, 0, 4, 5, 6] rfl)
            · replace hres := (if_pos c9).symm.trans hres
              refine lv_iload hx hb dX1_fewestCalls_65 (lv_at hl 3 rfl) ?_
              refine lv_istore_n (lv' := [(3, .int x5), (6, .int 1), (4, .int x4), (5, .int x5), (0, .ref (A 1)), (1, .int a1), (2, .int a2)]) hx hb dX1_fewestCalls_67 rfl hl (by decide) rfl (fun ls hl => ?_)
              refine lv_iload hx hb dX1_fewestCalls_68 (lv_at hl 3 rfl) ?_
              refine pu_s S (c_J6_bitCount_0f7a4 l x5 _ rfl) (va_cwS 1 hts gX1_fewestCalls_J6_bitCount_0f7a4 rfl rfl rfl (by decide +kernel) ⟨Nat.le_of_ble_eq_true rfl, Nat.le_of_ble_eq_true rfl⟩) hN rfl hl.1 rfl (Nat.le_of_ble_eq_true rfl) dX1_fewestCalls_70 ⟨Nat.zero_le _, Nat.zero_le _⟩ ?_
              refine lv_istore (lv' := [(4, .int (f_J6_bitCount_0f7a4 x5)), (3, .int x5), (6, .int 1), (5, .int x5), (0, .ref (A 1)), (1, .int a1), (2, .int a2)]) hx hb dX1_fewestCalls_73 hl (by decide) rfl (fun ls hl => ?_)
              refine lv_iinc (v := (x5 + 1)) (lv' := [(5, .int (x5 + 1)), (4, .int (f_J6_bitCount_0f7a4 x5)), (3, .int x5), (6, .int 1), (0, .ref (A 1)), (1, .int a1), (2, .int a2)]) hx hb dX1_fewestCalls_75 hl (k := 3) rfl rfl (by decide) rfl (fun ls hl => ?_)
              refine lv_goto (tgt := 10) hx hb dX1_fewestCalls_78 (by decide) ?_
              exact ih10 x5 (f_J6_bitCount_0f7a4 x5) (x5 + 1) hres ls (lv_sub hl [2, 1, 0, 4, 5, 6] rfl)
  exact w10 80 ((-9) : Int32) (7 : Int32) (0 : Int32) hres ls (lv_sub hl [2, 1, 0, 3, 4, 5] rfl)
abbrev rm_X1_setsThatLeave : Room := { frames := 5, cells := 0, slots := 0, locals := 112 }
def f_X1_setsThatLeave_4 (v : Nat → Int32) (r : Nat → Nat → Int32) (a1 : Int32) : Nat → Int32 → Int32 → Option Int32
  | 0, _, _ => none
  | n4 + 1, x2, x3 => (if (v 5) < x3 then some (x2) else (if (x3 &&& ((v 5) ^^^ (-1))) = 0 then (f_X1_companyOf v r ((v 5) &&& (x3 ^^^ (-1)))).bind (fun y3 => (if (f_X7_has y3 a1) = true then f_X1_setsThatLeave_4 v r a1 n4 (x2 + 1) (x3 + 1) else f_X1_setsThatLeave_4 v r a1 n4 x2 (x3 + 1))) else f_X1_setsThatLeave_4 v r a1 n4 x2 (x3 + 1)))
theorem f_X1_setsThatLeave_4_s (v : Nat → Int32) (r : Nat → Nat → Int32) (a1 : Int32) (n4 : Nat) (x2 : Int32) (x3 : Int32) : f_X1_setsThatLeave_4 v r a1 (n4 + 1) x2 x3 = (if (v 5) < x3 then some (x2) else (if (x3 &&& ((v 5) ^^^ (-1))) = 0 then (f_X1_companyOf v r ((v 5) &&& (x3 ^^^ (-1)))).bind (fun y3 => (if (f_X7_has y3 a1) = true then f_X1_setsThatLeave_4 v r a1 n4 (x2 + 1) (x3 + 1) else f_X1_setsThatLeave_4 v r a1 n4 x2 (x3 + 1))) else f_X1_setsThatLeave_4 v r a1 n4 x2 (x3 + 1))) := rfl
def f_X1_setsThatLeave (v : Nat → Int32) (r : Nat → Nat → Int32) (a1 : Int32) : Option Int32 := f_X1_setsThatLeave_4 v r a1 80 (0 : Int32) (0 : Int32)
set_option maxHeartbeats 4000000 in
set_option maxRecDepth 100000 in
theorem c_X1_setsThatLeave (l : Launch) (D : va_G) (cy : Nat → ClassId) (A : Nat → Nat) (X : va_W) (A0 : Nat → Prop) (v : Nat → Int32) (r : Nat → Nat → Int32) (a1 : Int32) (res : Int32) (hres : f_X1_setsThatLeave v r a1 = some res) : Met l yX1_setsThatLeave wsX1_setsThatLeave rm_X1_setsThatLeave (va_Pc [.ref (A 1), .int a1] (GW D (tyC cy) (pcC cy A v r ++ X) A0)) (QR (.int res)) 0 0 (fun _ => False) := by
  refine Met.ofW (cc := cX1_setsThatLeave) (maxL := 4) (ret := (some .int)) (by decide) rfl ?_
  intro p e s m args below meth c s₁ B hml hv
  obtain ⟨hargs, hP, hK, hD0, hN⟩ := hv
  have hx := B.exec
  have hb := B.bytes
  have hr := B.returns
  have hts := atoms_spec (ws := wsX1_setsThatLeave) B.pre
  have hown : s.vm.findClass RX1 = some m.cls := findClass_of_methodNamed B.named
  have hlocks := B.notSynchronized
  have hI : IW D (pcC cy A v r ++ X) A0 s.heap s.heap [] := ⟨hP, hD0, va_S.rf⟩
  have S : CallFix p m c cX1_setsThatLeave 4 s args wsX1_setsThatLeave RX1 := ⟨hx, hb, hml, hown, hts⟩
  have in1 : ∀ w ∈ wsX10, w ∈ wsX1_setsThatLeave := fun _ h => List.mem_cons_of_mem _ (List.mem_append_left _ (List.mem_append_right _ h))
  have hl := lv_entry ([.ref (A 1), .int a1]) (n := 4) (Nat.le_of_ble_eq_true rfl)
  have hE : entryFrame m args 4 = F0 m 0 ((lg_sl ([.ref (A 1), .int a1]) ++ List.replicate (4 - (lg_sl ([.ref (A 1), .int a1])).length) Slot.unset).toArray) [] := by rw [hargs]; exact lg_entry_eq m [.ref (A 1), .int a1] 4
  rw [hE]
  generalize (lg_sl ([.ref (A 1), .int a1]) ++ List.replicate (4 - (lg_sl ([.ref (A 1), .int a1])).length) Slot.unset).toArray = ls at hl ⊢
  have hl : lv_has ls 4 [(0, .ref (A 1)), (1, .int a1)] := hl
  unfold f_X1_setsThatLeave at hres
  refine lv_iconst (v := 0) hx hb dX1_setsThatLeave_0 (by decide) ?_
  refine lv_istore_n (lv' := [(2, .int 0), (0, .ref (A 1)), (1, .int a1)]) hx hb dX1_setsThatLeave_1 rfl hl (by decide) rfl (fun ls hl => ?_)
  refine lv_iconst (v := 0) hx hb dX1_setsThatLeave_2 (by decide) ?_
  refine lv_istore_n (lv' := [(3, .int 0), (2, .int 0), (0, .ref (A 1)), (1, .int a1)]) hx hb dX1_setsThatLeave_3 rfl hl (by decide) rfl (fun ls hl => ?_)
  have w4 : ∀ (n4 : Nat) (x2 : Int32) (x3 : Int32), f_X1_setsThatLeave_4 v r a1 n4 x2 x3 = some res → ∀ ls : Array Slot, lv_has ls 4 [(2, .int x2), (3, .int x3), (0, .ref (A 1)), (1, .int a1)] → W p l e (headSpec wsX1_setsThatLeave rm_X1_setsThatLeave).room s m args below meth c s.heap [] 0 0 (MQ below (QR (.int res)) args s 0 0 (fun _ => False)) (F0 m 4 ls []) := by
    intro n4
    induction n4 with
    | zero =>
      intro x2 x3  hres
      have hres : (none : Option Int32) = some res := hres
      cases hres
    | succ n4 ih4 =>
      intro x2 x3  hres ls hl
      replace hres := (f_X1_setsThatLeave_4_s v r a1 n4 x2 x3).symm.trans hres
      refine lv_iload_n hx hb dX1_setsThatLeave_4 rfl (lv_at hl 1 rfl) ?_
      refine lv_aload_n hx hb dX1_setsThatLeave_5 rfl (lv_at hl 2 rfl) ?_
      refine gC_X1_present hx hb hts in1 hown hK hI (hts (.fieldLink RX1 37 "TrickHouse$House" "present" "I") (by decide +kernel)) dX1_setsThatLeave_6 ?_
      refine lv_icmp_gt (tgt := 51) hx hb dX1_setsThatLeave_9 (by decide) (fun c1 => ?_) (fun c1 => ?_)
      · replace hres := (if_pos c1).symm.trans hres
        refine lv_iload_n hx hb dX1_setsThatLeave_51 rfl (lv_at hl 0 rfl) ?_
        obtain rfl := Option.some.inj hres
        exact W.iret hx hb hr (fun t ht hW => ⟨rfl, ht⟩) (fun _ h => absurd h List.not_mem_nil) dX1_setsThatLeave_52
      · replace hres := (if_neg c1).symm.trans hres
        refine lv_iload_n hx hb dX1_setsThatLeave_12 rfl (lv_at hl 1 rfl) ?_
        refine lv_aload_n hx hb dX1_setsThatLeave_13 rfl (lv_at hl 2 rfl) ?_
        refine gC_X1_present hx hb hts in1 hown hK hI (hts (.fieldLink RX1 37 "TrickHouse$House" "present" "I") (by decide +kernel)) dX1_setsThatLeave_14 ?_
        refine lv_iconst (v := (-1)) hx hb dX1_setsThatLeave_17 (by decide) ?_
        refine lv_ixor hx hb dX1_setsThatLeave_18 ?_
        refine lv_iand hx hb dX1_setsThatLeave_19 ?_
        refine lv_if_ne (tgt := 45) hx hb dX1_setsThatLeave_20 (by decide) (fun c2 => ?_) (fun c2 => ?_)
        · replace hres := (if_neg c2).symm.trans hres
          refine lv_iinc (v := (x3 + 1)) (lv' := [(3, .int (x3 + 1)), (2, .int x2), (0, .ref (A 1)), (1, .int a1)]) hx hb dX1_setsThatLeave_45 hl (k := 1) rfl rfl (by decide) rfl (fun ls hl => ?_)
          refine lv_goto (tgt := 4) hx hb dX1_setsThatLeave_48 (by decide) ?_
          exact ih4 x2 (x3 + 1) hres ls (lv_sub hl [1, 0, 2, 3] rfl)
        · replace hres := (if_pos c2).symm.trans hres
          refine lv_aload_n hx hb dX1_setsThatLeave_23 rfl (lv_at hl 2 rfl) ?_
          refine lv_aload_n hx hb dX1_setsThatLeave_24 rfl (lv_at hl 2 rfl) ?_
          refine gC_X1_present hx hb hts in1 hown hK hI (hts (.fieldLink RX1 37 "TrickHouse$House" "present" "I") (by decide +kernel)) dX1_setsThatLeave_25 ?_
          refine lv_iload_n hx hb dX1_setsThatLeave_28 rfl (lv_at hl 1 rfl) ?_
          refine lv_iconst (v := (-1)) hx hb dX1_setsThatLeave_29 (by decide) ?_
          refine lv_ixor hx hb dX1_setsThatLeave_30 ?_
          refine lv_iand hx hb dX1_setsThatLeave_31 ?_
          obtain ⟨y3, e3, hres⟩ := bd hres
          refine ro_v S (c_X1_companyOf l D cy A X A0 v r ((v 5) &&& (x3 ^^^ (-1))) y3 e3) (cwV 1 hts gX1_setsThatLeave_X1_companyOf rfl rfl rfl (by decide +kernel) ⟨Nat.le_of_ble_eq_true rfl, Nat.le_of_ble_eq_true rfl⟩) hI hK hN (ci := 1) rfl (atC_1) rfl rfl hl.1 rfl (Nat.le_of_ble_eq_true rfl) dX1_setsThatLeave_32 ⟨Nat.zero_le _, Nat.zero_le _⟩ ?_
          refine lv_iload_n hx hb dX1_setsThatLeave_35 rfl (lv_at hl 3 rfl) ?_
          refine pu_n S (c_X7_has l y3 a1 _ rfl) ⟨va_cnB 2 hts gX1_setsThatLeave_X7_has_n29 rfl rfl rfl hN.1 (hts (.initialized RX7) (by decide +kernel)) (by decide +kernel) ⟨Nat.le_of_ble_eq_true rfl, Nat.le_of_ble_eq_true rfl⟩, hts (.static yX7_has) (by decide +kernel), trivial⟩ hN rfl hl.1 rfl (Nat.le_of_ble_eq_true rfl) dX1_setsThatLeave_36 ⟨Nat.zero_le _, Nat.zero_le _⟩ ?_
          refine lv_if_eq (tgt := 45) hx hb dX1_setsThatLeave_39 (by decide) (fun c5 => ?_) (fun c5 => ?_)
          · replace hres := (if_neg (bI_f c5)).symm.trans hres
            refine lv_iinc (v := (x3 + 1)) (lv' := [(3, .int (x3 + 1)), (2, .int x2), (0, .ref (A 1)), (1, .int a1)]) hx hb dX1_setsThatLeave_45 hl (k := 1) rfl rfl (by decide) rfl (fun ls hl => ?_)
            refine lv_goto (tgt := 4) hx hb dX1_setsThatLeave_48 (by decide) ?_
            exact ih4 x2 (x3 + 1) hres ls (lv_sub hl [1, 0, 2, 3] rfl)
          · replace hres := (if_pos (bI_t c5)).symm.trans hres
            refine lv_iinc (v := (x2 + 1)) (lv' := [(2, .int (x2 + 1)), (3, .int x3), (0, .ref (A 1)), (1, .int a1)]) hx hb dX1_setsThatLeave_42 hl (k := 0) rfl rfl (by decide) rfl (fun ls hl => ?_)
            refine lv_iinc (v := (x3 + 1)) (lv' := [(3, .int (x3 + 1)), (2, .int (x2 + 1)), (0, .ref (A 1)), (1, .int a1)]) hx hb dX1_setsThatLeave_45 hl (k := 1) rfl rfl (by decide) rfl (fun ls hl => ?_)
            refine lv_goto (tgt := 4) hx hb dX1_setsThatLeave_48 (by decide) ?_
            exact ih4 (x2 + 1) (x3 + 1) hres ls (lv_sub hl [1, 0, 2, 3] rfl)
  exact w4 80 (0 : Int32) (0 : Int32) hres ls (lv_sub hl [1, 0, 2, 3] rfl)
