abbrev rm_X8_fails : Room := { frames := 0, cells := 0, slots := 0, locals := 0 }
def f_X8_fails (v : Nat → Int32) (r : Nat → Nat → Int32) (a1 : Int32) : Option (Int32 × ST) := some (((-10) - a1), ((upd v 0 a1), r))
set_option maxHeartbeats 4000000 in
set_option maxRecDepth 100000 in
theorem c_X8_fails (l : Launch) (D : va_G) (cy : Nat → ClassId) (A : Nat → Nat) (X : va_W) (A0 : Nat → Prop) (v : Nat → Int32) (r : Nat → Nat → Int32) (a1 : Int32) (res : Int32) (v2 : Nat → Int32) (r2 : Nat → Nat → Int32) (hres : f_X8_fails v r a1 = some (res, (v2, r2))) : Met l yX8_fails wsX8_fails rm_X8_fails (va_Pc [.ref (A 0), .int a1] (GW D (tyM cy) (pcM cy A v r ++ X) A0)) (QW (some (.int res)) (GW D (tyM cy) (pcM cy A v2 r2 ++ X) A0) A0) 0 0 A0 := by
  refine Met.ofW (cc := cX8_fails) (maxL := 2) (ret := (some .int)) (by decide) rfl ?_
  intro p e s m args below meth c s₁ B hml hv
  obtain ⟨hargs, hP, hK, hD0, hN⟩ := hv
  have hx := B.exec
  have hb := B.bytes
  have hr := B.returns
  have hts := atoms_spec (ws := wsX8_fails) B.pre
  have hown : s.vm.findClass RX8 = some m.cls := findClass_of_methodNamed B.named
  have hlocks := B.notSynchronized
  have hI : IW D (pcM cy A v r ++ X) A0 s.heap s.heap [] := ⟨hP, hD0, va_S.rf⟩
  have in8 : ∀ w ∈ wsX80, w ∈ wsX8_fails := fun _ h => List.mem_cons_of_mem _ (List.mem_append_right _ h)
  have hl := lv_entry ([.ref (A 0), .int a1]) (n := 2) (Nat.le_of_ble_eq_true rfl)
  have hE : entryFrame m args 2 = F0 m 0 ((lg_sl ([.ref (A 0), .int a1]) ++ List.replicate (2 - (lg_sl ([.ref (A 0), .int a1])).length) Slot.unset).toArray) [] := by rw [hargs]; exact lg_entry_eq m [.ref (A 0), .int a1] 2
  rw [hE]
  generalize (lg_sl ([.ref (A 0), .int a1]) ++ List.replicate (2 - (lg_sl ([.ref (A 0), .int a1])).length) Slot.unset).toArray = ls at hl ⊢
  have hl : lv_has ls 2 [(0, .ref (A 0)), (1, .int a1)] := hl
  unfold f_X8_fails at hres
  refine lv_aload_n hx hb dX8_fails_0 rfl (lv_at hl 0 rfl) ?_
  refine lv_iload_n hx hb dX8_fails_1 rfl (lv_at hl 1 rfl) ?_
  refine pM_fault hx hb hts in8 hown hK hI (hts (.fieldLink RX8 64 "TrickHouseModel" "fault" "I") (by decide +kernel)) dX8_fails_2 (fun H locs hI => ?_)
  refine lv_bipush (v := (-10)) hx hb dX8_fails_5 (by decide) ?_
  refine lv_iload_n hx hb dX8_fails_7 rfl (lv_at hl 1 rfl) ?_
  refine lv_isub hx hb dX8_fails_8 ?_
  obtain ⟨rfl, rfl, rfl⟩ := pr3 hres
  exact W.iret hx hb hr (fun t ht hW => ⟨rfl, ⟨by rw [ht]; exact hI.1, va_K.moved hW.alike hK, hI.2.1, NW.warm hW hN⟩, hI.2.2.F ht⟩) hI.2.2.2.2 dX8_fails_9
abbrev rm_X8_lost : Room := { frames := 0, cells := 0, slots := 0, locals := 0 }
def f_X8_lost (v : Nat → Int32) (r : Nat → Nat → Int32) (a1 : Int32) : Option (Int64 × ST) := some (((-9223372036854775808) : Int64), ((upd v 0 a1), r))
set_option maxHeartbeats 4000000 in
set_option maxRecDepth 100000 in
theorem c_X8_lost (l : Launch) (D : va_G) (cy : Nat → ClassId) (A : Nat → Nat) (X : va_W) (A0 : Nat → Prop) (v : Nat → Int32) (r : Nat → Nat → Int32) (a1 : Int32) (res : Int64) (v2 : Nat → Int32) (r2 : Nat → Nat → Int32) (hres : f_X8_lost v r a1 = some (res, (v2, r2))) : Met l yX8_lost wsX8_lost rm_X8_lost (va_Pc [.ref (A 0), .int a1] (GW D (tyM cy) (pcM cy A v r ++ X) A0)) (QW (some (.long res)) (GW D (tyM cy) (pcM cy A v2 r2 ++ X) A0) A0) 0 0 A0 := by
  refine Met.ofW (cc := cX8_lost) (maxL := 2) (ret := (some .long)) (by decide) rfl ?_
  intro p e s m args below meth c s₁ B hml hv
  obtain ⟨hargs, hP, hK, hD0, hN⟩ := hv
  have hx := B.exec
  have hb := B.bytes
  have hr := B.returns
  have hts := atoms_spec (ws := wsX8_lost) B.pre
  have hown : s.vm.findClass RX8 = some m.cls := findClass_of_methodNamed B.named
  have hlocks := B.notSynchronized
  have hI : IW D (pcM cy A v r ++ X) A0 s.heap s.heap [] := ⟨hP, hD0, va_S.rf⟩
  have in8 : ∀ w ∈ wsX80, w ∈ wsX8_lost := fun _ h => List.mem_cons_of_mem _ (List.mem_append_right _ h)
  have hl := lv_entry ([.ref (A 0), .int a1]) (n := 2) (Nat.le_of_ble_eq_true rfl)
  have hE : entryFrame m args 2 = F0 m 0 ((lg_sl ([.ref (A 0), .int a1]) ++ List.replicate (2 - (lg_sl ([.ref (A 0), .int a1])).length) Slot.unset).toArray) [] := by rw [hargs]; exact lg_entry_eq m [.ref (A 0), .int a1] 2
  rw [hE]
  generalize (lg_sl ([.ref (A 0), .int a1]) ++ List.replicate (2 - (lg_sl ([.ref (A 0), .int a1])).length) Slot.unset).toArray = ls at hl ⊢
  have hl : lv_has ls 2 [(0, .ref (A 0)), (1, .int a1)] := hl
  unfold f_X8_lost at hres
  refine lv_aload_n hx hb dX8_lost_0 rfl (lv_at hl 0 rfl) ?_
  refine lv_iload_n hx hb dX8_lost_1 rfl (lv_at hl 1 rfl) ?_
  refine pM_fault hx hb hts in8 hown hK hI (hts (.fieldLink RX8 64 "TrickHouseModel" "fault" "I") (by decide +kernel)) dX8_lost_2 (fun H locs hI => ?_)
  refine lv_ldc2 hx hb hown (hts (.constantLong RX8 68 (-9223372036854775808)) (by decide +kernel)) dX8_lost_5 ?_
  obtain ⟨rfl, rfl, rfl⟩ := pr3 hres
  exact W.lret hx hb hr (fun t ht hW => ⟨rfl, ⟨by rw [ht]; exact hI.1, va_K.moved hW.alike hK, hI.2.1, NW.warm hW hN⟩, hI.2.2.F ht⟩) hI.2.2.2.2 dX8_lost_8
abbrev rm_X8_within : Room := { frames := 0, cells := 0, slots := 0, locals := 0 }
def f_X8_within (a0 : Int32) (a1 : Int32) (a2 : Int32) : Bool := (if a0 < a1 then (false) else (if a2 < a0 then (false) else (true)))
set_option maxHeartbeats 4000000 in
set_option maxRecDepth 100000 in
theorem c_X8_within (l : Launch) (a0 : Int32) (a1 : Int32) (a2 : Int32) (res : Bool) (hres : f_X8_within a0 a1 a2 = res) : Met l yX8_within wsX8_within rm_X8_within (va_Pc [.int a0, .int a1, .int a2] NW) (QR (.int (bI res))) 0 0 (fun _ => False) := by
  refine Met.ofW (cc := cX8_within) (maxL := 3) (ret := (some .boolean)) (by decide) rfl ?_
  intro p e s m args below meth c s₁ B hml hv
  obtain ⟨hargs, hN⟩ := hv
  have hx := B.exec
  have hb := B.bytes
  have hr := B.returns
  have hts := atoms_spec (ws := wsX8_within) B.pre
  have hown : s.vm.findClass RX8 = some m.cls := findClass_of_methodNamed B.named
  have hlocks := B.notSynchronized
  have hl := lv_entry ([.int a0, .int a1, .int a2]) (n := 3) (Nat.le_of_ble_eq_true rfl)
  have hE : entryFrame m args 3 = F0 m 0 ((lg_sl ([.int a0, .int a1, .int a2]) ++ List.replicate (3 - (lg_sl ([.int a0, .int a1, .int a2])).length) Slot.unset).toArray) [] := by rw [hargs]; exact lg_entry_eq m [.int a0, .int a1, .int a2] 3
  rw [hE]
  generalize (lg_sl ([.int a0, .int a1, .int a2]) ++ List.replicate (3 - (lg_sl ([.int a0, .int a1, .int a2])).length) Slot.unset).toArray = ls at hl ⊢
  have hl : lv_has ls 3 [(0, .int a0), (1, .int a1), (2, .int a2)] := hl
  unfold f_X8_within at hres
  refine lv_iload_n hx hb dX8_within_0 rfl (lv_at hl 0 rfl) ?_
  refine lv_iload_n hx hb dX8_within_1 rfl (lv_at hl 1 rfl) ?_
  refine lv_icmp_lt (tgt := 14) hx hb dX8_within_2 (by decide) (fun c1 => ?_) (fun c1 => ?_)
  · replace hres := (if_pos c1).symm.trans hres
    refine lv_iconst (v := 0) hx hb dX8_within_14 (by decide) ?_
    obtain rfl := hres
    exact W.zret hx hb hr rfl (fun t ht hW => ⟨rfl, ht⟩) (fun _ h => absurd h List.not_mem_nil) dX8_within_15
  · replace hres := (if_neg c1).symm.trans hres
    refine lv_iload_n hx hb dX8_within_5 rfl (lv_at hl 0 rfl) ?_
    refine lv_iload_n hx hb dX8_within_6 rfl (lv_at hl 2 rfl) ?_
    refine lv_icmp_gt (tgt := 14) hx hb dX8_within_7 (by decide) (fun c2 => ?_) (fun c2 => ?_)
    · replace hres := (if_pos c2).symm.trans hres
      refine lv_iconst (v := 0) hx hb dX8_within_14 (by decide) ?_
      obtain rfl := hres
      exact W.zret hx hb hr rfl (fun t ht hW => ⟨rfl, ht⟩) (fun _ h => absurd h List.not_mem_nil) dX8_within_15
    · replace hres := (if_neg c2).symm.trans hres
      refine lv_iconst (v := 1) hx hb dX8_within_10 (by decide) ?_
      refine lv_goto (tgt := 15) hx hb dX8_within_11 (by decide) ?_
      obtain rfl := hres
      exact W.zret hx hb hr rfl (fun t ht hW => ⟨rfl, ht⟩) (fun _ h => absurd h List.not_mem_nil) dX8_within_15
abbrev rm_X8_isSheet : Room := { frames := 1, cells := 0, slots := 0, locals := 22 }
def f_X8_isSheet (a0 : Int32) : Bool := ((f_X8_within a0 (0 : Int32) (3 : Int32)))
set_option maxHeartbeats 4000000 in
set_option maxRecDepth 100000 in
theorem c_X8_isSheet (l : Launch) (a0 : Int32) (res : Bool) (hres : f_X8_isSheet a0 = res) : Met l yX8_isSheet wsX8_isSheet rm_X8_isSheet (va_Pc [.int a0] NW) (QR (.int (bI res))) 0 0 (fun _ => False) := by
  refine Met.ofW (cc := cX8_isSheet) (maxL := 1) (ret := (some .boolean)) (by decide) rfl ?_
  intro p e s m args below meth c s₁ B hml hv
  obtain ⟨hargs, hN⟩ := hv
  have hx := B.exec
  have hb := B.bytes
  have hr := B.returns
  have hts := atoms_spec (ws := wsX8_isSheet) B.pre
  have hown : s.vm.findClass RX8 = some m.cls := findClass_of_methodNamed B.named
  have hlocks := B.notSynchronized
  have S : CallFix p m c cX8_isSheet 1 s args wsX8_isSheet RX8 := ⟨hx, hb, hml, hown, hts⟩
  have hl := lv_entry ([.int a0]) (n := 1) (Nat.le_of_ble_eq_true rfl)
  have hE : entryFrame m args 1 = F0 m 0 ((lg_sl ([.int a0]) ++ List.replicate (1 - (lg_sl ([.int a0])).length) Slot.unset).toArray) [] := by rw [hargs]; exact lg_entry_eq m [.int a0] 1
  rw [hE]
  generalize (lg_sl ([.int a0]) ++ List.replicate (1 - (lg_sl ([.int a0])).length) Slot.unset).toArray = ls at hl ⊢
  have hl : lv_has ls 1 [(0, .int a0)] := hl
  unfold f_X8_isSheet at hres
  refine lv_iload_n hx hb dX8_isSheet_0 rfl (lv_at hl 0 rfl) ?_
  refine lv_iconst (v := 0) hx hb dX8_isSheet_1 (by decide) ?_
  refine lv_iconst (v := 3) hx hb dX8_isSheet_2 (by decide) ?_
  refine pu_s S (c_X8_within l a0 (0 : Int32) (3 : Int32) _ rfl) (va_cwS 3 hts gX8_isSheet_X8_within rfl rfl rfl (by decide +kernel) ⟨Nat.le_of_ble_eq_true rfl, Nat.le_of_ble_eq_true rfl⟩) hN rfl hl.1 rfl (Nat.le_of_ble_eq_true rfl) dX8_isSheet_3 ⟨Nat.zero_le _, Nat.zero_le _⟩ ?_
  obtain rfl := hres
  exact W.zret hx hb hr (bI_nar _) (fun t ht hW => ⟨rfl, ht⟩) (fun _ h => absurd h List.not_mem_nil) dX8_isSheet_6
abbrev rm_X8_isSort : Room := { frames := 1, cells := 0, slots := 0, locals := 22 }
def f_X8_isSort (a0 : Int32) : Bool := ((f_X8_within a0 (0 : Int32) (2 : Int32)))
set_option maxHeartbeats 4000000 in
set_option maxRecDepth 100000 in
theorem c_X8_isSort (l : Launch) (a0 : Int32) (res : Bool) (hres : f_X8_isSort a0 = res) : Met l yX8_isSort wsX8_isSort rm_X8_isSort (va_Pc [.int a0] NW) (QR (.int (bI res))) 0 0 (fun _ => False) := by
  refine Met.ofW (cc := cX8_isSort) (maxL := 1) (ret := (some .boolean)) (by decide) rfl ?_
  intro p e s m args below meth c s₁ B hml hv
  obtain ⟨hargs, hN⟩ := hv
  have hx := B.exec
  have hb := B.bytes
  have hr := B.returns
  have hts := atoms_spec (ws := wsX8_isSort) B.pre
  have hown : s.vm.findClass RX8 = some m.cls := findClass_of_methodNamed B.named
  have hlocks := B.notSynchronized
  have S : CallFix p m c cX8_isSort 1 s args wsX8_isSort RX8 := ⟨hx, hb, hml, hown, hts⟩
  have hl := lv_entry ([.int a0]) (n := 1) (Nat.le_of_ble_eq_true rfl)
  have hE : entryFrame m args 1 = F0 m 0 ((lg_sl ([.int a0]) ++ List.replicate (1 - (lg_sl ([.int a0])).length) Slot.unset).toArray) [] := by rw [hargs]; exact lg_entry_eq m [.int a0] 1
  rw [hE]
  generalize (lg_sl ([.int a0]) ++ List.replicate (1 - (lg_sl ([.int a0])).length) Slot.unset).toArray = ls at hl ⊢
  have hl : lv_has ls 1 [(0, .int a0)] := hl
  unfold f_X8_isSort at hres
  refine lv_iload_n hx hb dX8_isSort_0 rfl (lv_at hl 0 rfl) ?_
  refine lv_iconst (v := 0) hx hb dX8_isSort_1 (by decide) ?_
  refine lv_iconst (v := 2) hx hb dX8_isSort_2 (by decide) ?_
  refine pu_s S (c_X8_within l a0 (0 : Int32) (2 : Int32) _ rfl) (va_cwS 3 hts gX8_isSort_X8_within rfl rfl rfl (by decide +kernel) ⟨Nat.le_of_ble_eq_true rfl, Nat.le_of_ble_eq_true rfl⟩) hN rfl hl.1 rfl (Nat.le_of_ble_eq_true rfl) dX8_isSort_3 ⟨Nat.zero_le _, Nat.zero_le _⟩ ?_
  obtain rfl := hres
  exact W.zret hx hb hr (bI_nar _) (fun t ht hW => ⟨rfl, ht⟩) (fun _ h => absurd h List.not_mem_nil) dX8_isSort_6
abbrev rm_X8_against : Room := { frames := 0, cells := 0, slots := 0, locals := 0 }
def f_X8_against (v : Nat → Int32) (r : Nat → Nat → Int32) (a1 : Int32) (a2 : Int32) (a3 : Int32) (a4 : Int32) : Option Int32 := if inR a1 4 = true then (if (r 0 a1.toNatClampNeg) = (-9) then if inR a1 4 = true then (if (r 0 a1.toNatClampNeg) = (-9) then some (1) else (if 0 ≤ a4 then (if a3 < 0 then some (3) else if inR a1 4 = true then (if (r 1 a1.toNatClampNeg) < a3 then some (3) else if inR a1 4 = true then (if a4 ≤ ((r 1 a1.toNatClampNeg) - a3) then some (0) else some (3)) else none) else none) else some (4))) else none else if inR a1 4 = true then (if (r 0 a1.toNatClampNeg) = a2 then if inR a1 4 = true then (if (r 0 a1.toNatClampNeg) = (-9) then some (1) else (if 0 ≤ a4 then (if a3 < 0 then some (3) else if inR a1 4 = true then (if (r 1 a1.toNatClampNeg) < a3 then some (3) else if inR a1 4 = true then (if a4 ≤ ((r 1 a1.toNatClampNeg) - a3) then some (0) else some (3)) else none) else none) else some (4))) else none else some (2)) else none) else none
set_option maxHeartbeats 4000000 in
set_option maxRecDepth 100000 in
theorem c_X8_against (l : Launch) (D : va_G) (cy : Nat → ClassId) (A : Nat → Nat) (X : va_W) (A0 : Nat → Prop) (v : Nat → Int32) (r : Nat → Nat → Int32) (a1 : Int32) (a2 : Int32) (a3 : Int32) (a4 : Int32) (res : Int32) (hres : f_X8_against v r a1 a2 a3 a4 = some res) : Met l yX8_against wsX8_against rm_X8_against (va_Pc [.ref (A 0), .int a1, .int a2, .int a3, .int a4] (GW D (tyM cy) (pcM cy A v r ++ X) A0)) (QR (.int res)) 0 0 (fun _ => False) := by
  refine Met.ofW (cc := cX8_against) (maxL := 5) (ret := (some .int)) (by decide) rfl ?_
  intro p e s m args below meth c s₁ B hml hv
  obtain ⟨hargs, hP, hK, hD0, hN⟩ := hv
  have hx := B.exec
  have hb := B.bytes
  have hr := B.returns
  have hts := atoms_spec (ws := wsX8_against) B.pre
  have hown : s.vm.findClass RX8 = some m.cls := findClass_of_methodNamed B.named
  have hlocks := B.notSynchronized
  have hI : IW D (pcM cy A v r ++ X) A0 s.heap s.heap [] := ⟨hP, hD0, va_S.rf⟩
  have in8 : ∀ w ∈ wsX80, w ∈ wsX8_against := fun _ h => List.mem_cons_of_mem _ (List.mem_append_right _ h)
  have hl := lv_entry ([.ref (A 0), .int a1, .int a2, .int a3, .int a4]) (n := 5) (Nat.le_of_ble_eq_true rfl)
  have hE : entryFrame m args 5 = F0 m 0 ((lg_sl ([.ref (A 0), .int a1, .int a2, .int a3, .int a4]) ++ List.replicate (5 - (lg_sl ([.ref (A 0), .int a1, .int a2, .int a3, .int a4])).length) Slot.unset).toArray) [] := by rw [hargs]; exact lg_entry_eq m [.ref (A 0), .int a1, .int a2, .int a3, .int a4] 5
  rw [hE]
  generalize (lg_sl ([.ref (A 0), .int a1, .int a2, .int a3, .int a4]) ++ List.replicate (5 - (lg_sl ([.ref (A 0), .int a1, .int a2, .int a3, .int a4])).length) Slot.unset).toArray = ls at hl ⊢
  have hl : lv_has ls 5 [(0, .ref (A 0)), (1, .int a1), (2, .int a2), (3, .int a3), (4, .int a4)] := hl
  unfold f_X8_against at hres
  refine lv_aload_n hx hb dX8_against_0 rfl (lv_at hl 0 rfl) ?_
  refine gM_sorts hx hb hts in8 hown hK hI (hts (.fieldLink RX8 9 "TrickHouseModel" "sorts" "[I") (by decide +kernel)) dX8_against_1 ?_
  refine lv_iload_n hx hb dX8_against_4 rfl (lv_at hl 1 rfl) ?_
  obtain ⟨g1, hres⟩ := gd hres
  refine th_ild hx hb hK hI 1 0 rfl rfl g1 dX8_against_5 ?_
  refine lv_bipush (v := (-9)) hx hb dX8_against_6 (by decide) ?_
  refine lv_icmp_eq (tgt := 23) hx hb dX8_against_8 (by decide) (fun c2 => ?_) (fun c2 => ?_)
  · replace hres := (if_pos c2).symm.trans hres
    refine lv_aload_n hx hb dX8_against_23 rfl (lv_at hl 0 rfl) ?_
    refine gM_sorts hx hb hts in8 hown hK hI (hts (.fieldLink RX8 9 "TrickHouseModel" "sorts" "[I") (by decide +kernel)) dX8_against_24 ?_
    refine lv_iload_n hx hb dX8_against_27 rfl (lv_at hl 1 rfl) ?_
    obtain ⟨g3, hres⟩ := gd hres
    refine th_ild hx hb hK hI 1 0 rfl rfl g3 dX8_against_28 ?_
    refine lv_bipush (v := (-9)) hx hb dX8_against_29 (by decide) ?_
    refine lv_icmp_ne (tgt := 36) hx hb dX8_against_31 (by decide) (fun c4 => ?_) (fun c4 => ?_)
    · replace hres := (if_neg c4).symm.trans hres
      refine lv_iload hx hb dX8_against_36 (lv_at hl 4 rfl) ?_
      refine lv_if_ge (tgt := 43) hx hb dX8_against_38 (by decide) (fun c5 => ?_) (fun c5 => ?_)
      · replace hres := (if_pos c5).symm.trans hres
        refine lv_iload_n hx hb dX8_against_43 rfl (lv_at hl 3 rfl) ?_
        refine lv_if_lt (tgt := 70) hx hb dX8_against_44 (by decide) (fun c6 => ?_) (fun c6 => ?_)
        · replace hres := (if_pos c6).symm.trans hres
          refine lv_iconst (v := 3) hx hb dX8_against_70 (by decide) ?_
          refine lv_goto (tgt := 75) hx hb dX8_against_71 (by decide) ?_
          obtain rfl := Option.some.inj hres
          exact W.iret hx hb hr (fun t ht hW => ⟨rfl, ht⟩) (fun _ h => absurd h List.not_mem_nil) dX8_against_75
        · replace hres := (if_neg c6).symm.trans hres
          refine lv_iload_n hx hb dX8_against_47 rfl (lv_at hl 3 rfl) ?_
          refine lv_aload_n hx hb dX8_against_48 rfl (lv_at hl 0 rfl) ?_
          refine gM_sheetLong hx hb hts in8 hown hK hI (hts (.fieldLink RX8 13 "TrickHouseModel" "sheetLong" "[I") (by decide +kernel)) dX8_against_49 ?_
          refine lv_iload_n hx hb dX8_against_52 rfl (lv_at hl 1 rfl) ?_
          obtain ⟨g7, hres⟩ := gd hres
          refine th_ild hx hb hK hI 2 0 rfl rfl g7 dX8_against_53 ?_
          refine lv_icmp_gt (tgt := 70) hx hb dX8_against_54 (by decide) (fun c8 => ?_) (fun c8 => ?_)
          · replace hres := (if_pos c8).symm.trans hres
            refine lv_iconst (v := 3) hx hb dX8_against_70 (by decide) ?_
            refine lv_goto (tgt := 75) hx hb dX8_against_71 (by decide) ?_
            obtain rfl := Option.some.inj hres
            exact W.iret hx hb hr (fun t ht hW => ⟨rfl, ht⟩) (fun _ h => absurd h List.not_mem_nil) dX8_against_75
          · replace hres := (if_neg c8).symm.trans hres
            refine lv_iload hx hb dX8_against_57 (lv_at hl 4 rfl) ?_
            refine lv_aload_n hx hb dX8_against_59 rfl (lv_at hl 0 rfl) ?_
            refine gM_sheetLong hx hb hts in8 hown hK hI (hts (.fieldLink RX8 13 "TrickHouseModel" "sheetLong" "[I") (by decide +kernel)) dX8_against_60 ?_
            refine lv_iload_n hx hb dX8_against_63 rfl (lv_at hl 1 rfl) ?_
            obtain ⟨g9, hres⟩ := gd hres
            refine th_ild hx hb hK hI 2 0 rfl rfl g9 dX8_against_64 ?_
            refine lv_iload_n hx hb dX8_against_65 rfl (lv_at hl 3 rfl) ?_
            refine lv_isub hx hb dX8_against_66 ?_
            refine lv_icmp_le (tgt := 74) hx hb dX8_against_67 (by decide) (fun c10 => ?_) (fun c10 => ?_)
            · replace hres := (if_pos c10).symm.trans hres
              refine lv_iconst (v := 0) hx hb dX8_against_74 (by decide) ?_
              obtain rfl := Option.some.inj hres
              exact W.iret hx hb hr (fun t ht hW => ⟨rfl, ht⟩) (fun _ h => absurd h List.not_mem_nil) dX8_against_75
            · replace hres := (if_neg c10).symm.trans hres
              refine lv_iconst (v := 3) hx hb dX8_against_70 (by decide) ?_
              refine lv_goto (tgt := 75) hx hb dX8_against_71 (by decide) ?_
              obtain rfl := Option.some.inj hres
              exact W.iret hx hb hr (fun t ht hW => ⟨rfl, ht⟩) (fun _ h => absurd h List.not_mem_nil) dX8_against_75
      · replace hres := (if_neg c5).symm.trans hres
        refine lv_iconst (v := 4) hx hb dX8_against_41 (by decide) ?_
        obtain rfl := Option.some.inj hres
        exact W.iret hx hb hr (fun t ht hW => ⟨rfl, ht⟩) (fun _ h => absurd h List.not_mem_nil) dX8_against_42
    · replace hres := (if_pos c4).symm.trans hres
      refine lv_iconst (v := 1) hx hb dX8_against_34 (by decide) ?_
      obtain rfl := Option.some.inj hres
      exact W.iret hx hb hr (fun t ht hW => ⟨rfl, ht⟩) (fun _ h => absurd h List.not_mem_nil) dX8_against_35
  · replace hres := (if_neg c2).symm.trans hres
    refine lv_aload_n hx hb dX8_against_11 rfl (lv_at hl 0 rfl) ?_
    refine gM_sorts hx hb hts in8 hown hK hI (hts (.fieldLink RX8 9 "TrickHouseModel" "sorts" "[I") (by decide +kernel)) dX8_against_12 ?_
    refine lv_iload_n hx hb dX8_against_15 rfl (lv_at hl 1 rfl) ?_
    obtain ⟨g11, hres⟩ := gd hres
    refine th_ild hx hb hK hI 1 0 rfl rfl g11 dX8_against_16 ?_
    refine lv_iload_n hx hb dX8_against_17 rfl (lv_at hl 2 rfl) ?_
    refine lv_icmp_eq (tgt := 23) hx hb dX8_against_18 (by decide) (fun c12 => ?_) (fun c12 => ?_)
    · replace hres := (if_pos c12).symm.trans hres
      refine lv_aload_n hx hb dX8_against_23 rfl (lv_at hl 0 rfl) ?_
      refine gM_sorts hx hb hts in8 hown hK hI (hts (.fieldLink RX8 9 "TrickHouseModel" "sorts" "[I") (by decide +kernel)) dX8_against_24 ?_
      refine lv_iload_n hx hb dX8_against_27 rfl (lv_at hl 1 rfl) ?_
      obtain ⟨g13, hres⟩ := gd hres
      refine th_ild hx hb hK hI 1 0 rfl rfl g13 dX8_against_28 ?_
      refine lv_bipush (v := (-9)) hx hb dX8_against_29 (by decide) ?_
      refine lv_icmp_ne (tgt := 36) hx hb dX8_against_31 (by decide) (fun c14 => ?_) (fun c14 => ?_)
      · replace hres := (if_neg c14).symm.trans hres
        refine lv_iload hx hb dX8_against_36 (lv_at hl 4 rfl) ?_
        refine lv_if_ge (tgt := 43) hx hb dX8_against_38 (by decide) (fun c15 => ?_) (fun c15 => ?_)
        · replace hres := (if_pos c15).symm.trans hres
          refine lv_iload_n hx hb dX8_against_43 rfl (lv_at hl 3 rfl) ?_
          refine lv_if_lt (tgt := 70) hx hb dX8_against_44 (by decide) (fun c16 => ?_) (fun c16 => ?_)
          · replace hres := (if_pos c16).symm.trans hres
            refine lv_iconst (v := 3) hx hb dX8_against_70 (by decide) ?_
            refine lv_goto (tgt := 75) hx hb dX8_against_71 (by decide) ?_
            obtain rfl := Option.some.inj hres
            exact W.iret hx hb hr (fun t ht hW => ⟨rfl, ht⟩) (fun _ h => absurd h List.not_mem_nil) dX8_against_75
          · replace hres := (if_neg c16).symm.trans hres
            refine lv_iload_n hx hb dX8_against_47 rfl (lv_at hl 3 rfl) ?_
            refine lv_aload_n hx hb dX8_against_48 rfl (lv_at hl 0 rfl) ?_
            refine gM_sheetLong hx hb hts in8 hown hK hI (hts (.fieldLink RX8 13 "TrickHouseModel" "sheetLong" "[I") (by decide +kernel)) dX8_against_49 ?_
            refine lv_iload_n hx hb dX8_against_52 rfl (lv_at hl 1 rfl) ?_
            obtain ⟨g17, hres⟩ := gd hres
            refine th_ild hx hb hK hI 2 0 rfl rfl g17 dX8_against_53 ?_
            refine lv_icmp_gt (tgt := 70) hx hb dX8_against_54 (by decide) (fun c18 => ?_) (fun c18 => ?_)
            · replace hres := (if_pos c18).symm.trans hres
              refine lv_iconst (v := 3) hx hb dX8_against_70 (by decide) ?_
              refine lv_goto (tgt := 75) hx hb dX8_against_71 (by decide) ?_
              obtain rfl := Option.some.inj hres
              exact W.iret hx hb hr (fun t ht hW => ⟨rfl, ht⟩) (fun _ h => absurd h List.not_mem_nil) dX8_against_75
            · replace hres := (if_neg c18).symm.trans hres
              refine lv_iload hx hb dX8_against_57 (lv_at hl 4 rfl) ?_
              refine lv_aload_n hx hb dX8_against_59 rfl (lv_at hl 0 rfl) ?_
              refine gM_sheetLong hx hb hts in8 hown hK hI (hts (.fieldLink RX8 13 "TrickHouseModel" "sheetLong" "[I") (by decide +kernel)) dX8_against_60 ?_
              refine lv_iload_n hx hb dX8_against_63 rfl (lv_at hl 1 rfl) ?_
              obtain ⟨g19, hres⟩ := gd hres
              refine th_ild hx hb hK hI 2 0 rfl rfl g19 dX8_against_64 ?_
              refine lv_iload_n hx hb dX8_against_65 rfl (lv_at hl 3 rfl) ?_
              refine lv_isub hx hb dX8_against_66 ?_
              refine lv_icmp_le (tgt := 74) hx hb dX8_against_67 (by decide) (fun c20 => ?_) (fun c20 => ?_)
              · replace hres := (if_pos c20).symm.trans hres
                refine lv_iconst (v := 0) hx hb dX8_against_74 (by decide) ?_
                obtain rfl := Option.some.inj hres
                exact W.iret hx hb hr (fun t ht hW => ⟨rfl, ht⟩) (fun _ h => absurd h List.not_mem_nil) dX8_against_75
              · replace hres := (if_neg c20).symm.trans hres
                refine lv_iconst (v := 3) hx hb dX8_against_70 (by decide) ?_
                refine lv_goto (tgt := 75) hx hb dX8_against_71 (by decide) ?_
                obtain rfl := Option.some.inj hres
                exact W.iret hx hb hr (fun t ht hW => ⟨rfl, ht⟩) (fun _ h => absurd h List.not_mem_nil) dX8_against_75
        · replace hres := (if_neg c15).symm.trans hres
          refine lv_iconst (v := 4) hx hb dX8_against_41 (by decide) ?_
          obtain rfl := Option.some.inj hres
          exact W.iret hx hb hr (fun t ht hW => ⟨rfl, ht⟩) (fun _ h => absurd h List.not_mem_nil) dX8_against_42
      · replace hres := (if_pos c14).symm.trans hres
        refine lv_iconst (v := 1) hx hb dX8_against_34 (by decide) ?_
        obtain rfl := Option.some.inj hres
        exact W.iret hx hb hr (fun t ht hW => ⟨rfl, ht⟩) (fun _ h => absurd h List.not_mem_nil) dX8_against_35
    · replace hres := (if_neg c12).symm.trans hres
      refine lv_iconst (v := 2) hx hb dX8_against_21 (by decide) ?_
      obtain rfl := Option.some.inj hres
      exact W.iret hx hb hr (fun t ht hW => ⟨rfl, ht⟩) (fun _ h => absurd h List.not_mem_nil) dX8_against_22
abbrev rm_X8_isArticle : Room := { frames := 0, cells := 0, slots := 0, locals := 0 }
def f_X8_isArticle (v : Nat → Int32) (r : Nat → Nat → Int32) (a1 : Int32) : Bool := (if a1 < 0 then (false) else (if (v 4) ≤ a1 then (false) else (true)))
set_option maxHeartbeats 4000000 in
set_option maxRecDepth 100000 in
theorem c_X8_isArticle (l : Launch) (D : va_G) (cy : Nat → ClassId) (A : Nat → Nat) (X : va_W) (A0 : Nat → Prop) (v : Nat → Int32) (r : Nat → Nat → Int32) (a1 : Int32) (res : Bool) (hres : f_X8_isArticle v r a1 = res) : Met l yX8_isArticle wsX8_isArticle rm_X8_isArticle (va_Pc [.ref (A 0), .int a1] (GW D (tyM cy) (pcM cy A v r ++ X) A0)) (QR (.int (bI res))) 0 0 (fun _ => False) := by
  refine Met.ofW (cc := cX8_isArticle) (maxL := 2) (ret := (some .boolean)) (by decide) rfl ?_
  intro p e s m args below meth c s₁ B hml hv
  obtain ⟨hargs, hP, hK, hD0, hN⟩ := hv
  have hx := B.exec
  have hb := B.bytes
  have hr := B.returns
  have hts := atoms_spec (ws := wsX8_isArticle) B.pre
  have hown : s.vm.findClass RX8 = some m.cls := findClass_of_methodNamed B.named
  have hlocks := B.notSynchronized
  have hI : IW D (pcM cy A v r ++ X) A0 s.heap s.heap [] := ⟨hP, hD0, va_S.rf⟩
  have in8 : ∀ w ∈ wsX80, w ∈ wsX8_isArticle := fun _ h => List.mem_cons_of_mem _ (List.mem_append_right _ h)
  have hl := lv_entry ([.ref (A 0), .int a1]) (n := 2) (Nat.le_of_ble_eq_true rfl)
  have hE : entryFrame m args 2 = F0 m 0 ((lg_sl ([.ref (A 0), .int a1]) ++ List.replicate (2 - (lg_sl ([.ref (A 0), .int a1])).length) Slot.unset).toArray) [] := by rw [hargs]; exact lg_entry_eq m [.ref (A 0), .int a1] 2
  rw [hE]
  generalize (lg_sl ([.ref (A 0), .int a1]) ++ List.replicate (2 - (lg_sl ([.ref (A 0), .int a1])).length) Slot.unset).toArray = ls at hl ⊢
  have hl : lv_has ls 2 [(0, .ref (A 0)), (1, .int a1)] := hl
  unfold f_X8_isArticle at hres
  refine lv_iload_n hx hb dX8_isArticle_0 rfl (lv_at hl 1 rfl) ?_
  refine lv_if_lt (tgt := 16) hx hb dX8_isArticle_1 (by decide) (fun c1 => ?_) (fun c1 => ?_)
  · replace hres := (if_pos c1).symm.trans hres
    refine lv_iconst (v := 0) hx hb dX8_isArticle_16 (by decide) ?_
    obtain rfl := hres
    exact W.zret hx hb hr rfl (fun t ht hW => ⟨rfl, ht⟩) (fun _ h => absurd h List.not_mem_nil) dX8_isArticle_17
  · replace hres := (if_neg c1).symm.trans hres
    refine lv_iload_n hx hb dX8_isArticle_4 rfl (lv_at hl 1 rfl) ?_
    refine lv_aload_n hx hb dX8_isArticle_5 rfl (lv_at hl 0 rfl) ?_
    refine gM_articles hx hb hts in8 hown hK hI (hts (.fieldLink RX8 74 "TrickHouseModel" "articles" "I") (by decide +kernel)) dX8_isArticle_6 ?_
    refine lv_icmp_ge (tgt := 16) hx hb dX8_isArticle_9 (by decide) (fun c2 => ?_) (fun c2 => ?_)
    · replace hres := (if_pos c2).symm.trans hres
      refine lv_iconst (v := 0) hx hb dX8_isArticle_16 (by decide) ?_
      obtain rfl := hres
      exact W.zret hx hb hr rfl (fun t ht hW => ⟨rfl, ht⟩) (fun _ h => absurd h List.not_mem_nil) dX8_isArticle_17
    · replace hres := (if_neg c2).symm.trans hres
      refine lv_iconst (v := 1) hx hb dX8_isArticle_12 (by decide) ?_
      refine lv_goto (tgt := 17) hx hb dX8_isArticle_13 (by decide) ?_
      obtain rfl := hres
      exact W.zret hx hb hr rfl (fun t ht hW => ⟨rfl, ht⟩) (fun _ h => absurd h List.not_mem_nil) dX8_isArticle_17
abbrev rm_X8_isRoom : Room := { frames := 0, cells := 0, slots := 0, locals := 0 }
def f_X8_isRoom (v : Nat → Int32) (r : Nat → Nat → Int32) (a1 : Int32) : Bool := (if a1 < 0 then (false) else (if (v 3) ≤ a1 then (false) else (true)))
set_option maxHeartbeats 4000000 in
set_option maxRecDepth 100000 in
theorem c_X8_isRoom (l : Launch) (D : va_G) (cy : Nat → ClassId) (A : Nat → Nat) (X : va_W) (A0 : Nat → Prop) (v : Nat → Int32) (r : Nat → Nat → Int32) (a1 : Int32) (res : Bool) (hres : f_X8_isRoom v r a1 = res) : Met l yX8_isRoom wsX8_isRoom rm_X8_isRoom (va_Pc [.ref (A 0), .int a1] (GW D (tyM cy) (pcM cy A v r ++ X) A0)) (QR (.int (bI res))) 0 0 (fun _ => False) := by
  refine Met.ofW (cc := cX8_isRoom) (maxL := 2) (ret := (some .boolean)) (by decide) rfl ?_
  intro p e s m args below meth c s₁ B hml hv
  obtain ⟨hargs, hP, hK, hD0, hN⟩ := hv
  have hx := B.exec
  have hb := B.bytes
  have hr := B.returns
  have hts := atoms_spec (ws := wsX8_isRoom) B.pre
  have hown : s.vm.findClass RX8 = some m.cls := findClass_of_methodNamed B.named
  have hlocks := B.notSynchronized
  have hI : IW D (pcM cy A v r ++ X) A0 s.heap s.heap [] := ⟨hP, hD0, va_S.rf⟩
  have in8 : ∀ w ∈ wsX80, w ∈ wsX8_isRoom := fun _ h => List.mem_cons_of_mem _ (List.mem_append_right _ h)
  have hl := lv_entry ([.ref (A 0), .int a1]) (n := 2) (Nat.le_of_ble_eq_true rfl)
  have hE : entryFrame m args 2 = F0 m 0 ((lg_sl ([.ref (A 0), .int a1]) ++ List.replicate (2 - (lg_sl ([.ref (A 0), .int a1])).length) Slot.unset).toArray) [] := by rw [hargs]; exact lg_entry_eq m [.ref (A 0), .int a1] 2
  rw [hE]
  generalize (lg_sl ([.ref (A 0), .int a1]) ++ List.replicate (2 - (lg_sl ([.ref (A 0), .int a1])).length) Slot.unset).toArray = ls at hl ⊢
  have hl : lv_has ls 2 [(0, .ref (A 0)), (1, .int a1)] := hl
  unfold f_X8_isRoom at hres
  refine lv_iload_n hx hb dX8_isRoom_0 rfl (lv_at hl 1 rfl) ?_
  refine lv_if_lt (tgt := 16) hx hb dX8_isRoom_1 (by decide) (fun c1 => ?_) (fun c1 => ?_)
  · replace hres := (if_pos c1).symm.trans hres
    refine lv_iconst (v := 0) hx hb dX8_isRoom_16 (by decide) ?_
    obtain rfl := hres
    exact W.zret hx hb hr rfl (fun t ht hW => ⟨rfl, ht⟩) (fun _ h => absurd h List.not_mem_nil) dX8_isRoom_17
  · replace hres := (if_neg c1).symm.trans hres
    refine lv_iload_n hx hb dX8_isRoom_4 rfl (lv_at hl 1 rfl) ?_
    refine lv_aload_n hx hb dX8_isRoom_5 rfl (lv_at hl 0 rfl) ?_
    refine gM_rooms hx hb hts in8 hown hK hI (hts (.fieldLink RX8 77 "TrickHouseModel" "rooms" "I") (by decide +kernel)) dX8_isRoom_6 ?_
    refine lv_icmp_ge (tgt := 16) hx hb dX8_isRoom_9 (by decide) (fun c2 => ?_) (fun c2 => ?_)
    · replace hres := (if_pos c2).symm.trans hres
      refine lv_iconst (v := 0) hx hb dX8_isRoom_16 (by decide) ?_
      obtain rfl := hres
      exact W.zret hx hb hr rfl (fun t ht hW => ⟨rfl, ht⟩) (fun _ h => absurd h List.not_mem_nil) dX8_isRoom_17
    · replace hres := (if_neg c2).symm.trans hres
      refine lv_iconst (v := 1) hx hb dX8_isRoom_12 (by decide) ?_
      refine lv_goto (tgt := 17) hx hb dX8_isRoom_13 (by decide) ?_
      obtain rfl := hres
      exact W.zret hx hb hr rfl (fun t ht hW => ⟨rfl, ht⟩) (fun _ h => absurd h List.not_mem_nil) dX8_isRoom_17
abbrev rm_X8_isCorner : Room := { frames := 1, cells := 0, slots := 0, locals := 22 }
def f_X8_isCorner (a0 : Int32) : Bool := ((f_X8_within a0 (0 : Int32) (63 : Int32)))
set_option maxHeartbeats 4000000 in
set_option maxRecDepth 100000 in
theorem c_X8_isCorner (l : Launch) (a0 : Int32) (res : Bool) (hres : f_X8_isCorner a0 = res) : Met l yX8_isCorner wsX8_isCorner rm_X8_isCorner (va_Pc [.int a0] NW) (QR (.int (bI res))) 0 0 (fun _ => False) := by
  refine Met.ofW (cc := cX8_isCorner) (maxL := 1) (ret := (some .boolean)) (by decide) rfl ?_
  intro p e s m args below meth c s₁ B hml hv
  obtain ⟨hargs, hN⟩ := hv
  have hx := B.exec
  have hb := B.bytes
  have hr := B.returns
  have hts := atoms_spec (ws := wsX8_isCorner) B.pre
  have hown : s.vm.findClass RX8 = some m.cls := findClass_of_methodNamed B.named
  have hlocks := B.notSynchronized
  have S : CallFix p m c cX8_isCorner 1 s args wsX8_isCorner RX8 := ⟨hx, hb, hml, hown, hts⟩
  have hl := lv_entry ([.int a0]) (n := 1) (Nat.le_of_ble_eq_true rfl)
  have hE : entryFrame m args 1 = F0 m 0 ((lg_sl ([.int a0]) ++ List.replicate (1 - (lg_sl ([.int a0])).length) Slot.unset).toArray) [] := by rw [hargs]; exact lg_entry_eq m [.int a0] 1
  rw [hE]
  generalize (lg_sl ([.int a0]) ++ List.replicate (1 - (lg_sl ([.int a0])).length) Slot.unset).toArray = ls at hl ⊢
  have hl : lv_has ls 1 [(0, .int a0)] := hl
  unfold f_X8_isCorner at hres
  refine lv_iload_n hx hb dX8_isCorner_0 rfl (lv_at hl 0 rfl) ?_
  refine lv_iconst (v := 0) hx hb dX8_isCorner_1 (by decide) ?_
  refine lv_bipush (v := 63) hx hb dX8_isCorner_2 (by decide) ?_
  refine pu_s S (c_X8_within l a0 (0 : Int32) (63 : Int32) _ rfl) (va_cwS 3 hts gX8_isCorner_X8_within rfl rfl rfl (by decide +kernel) ⟨Nat.le_of_ble_eq_true rfl, Nat.le_of_ble_eq_true rfl⟩) hN rfl hl.1 rfl (Nat.le_of_ble_eq_true rfl) dX8_isCorner_4 ⟨Nat.zero_le _, Nat.zero_le _⟩ ?_
  obtain rfl := hres
  exact W.zret hx hb hr (bI_nar _) (fun t ht hW => ⟨rfl, ht⟩) (fun _ h => absurd h List.not_mem_nil) dX8_isCorner_7
abbrev rm_X8_isSet : Room := { frames := 0, cells := 0, slots := 0, locals := 0 }
def f_X8_isSet (v : Nat → Int32) (r : Nat → Nat → Int32) (a1 : Int32) : Bool := (if a1 < 0 then (false) else (if ((1 : Int32) <<< ((v 4) &&& 31)) ≤ a1 then (false) else (true)))
set_option maxHeartbeats 4000000 in
set_option maxRecDepth 100000 in
theorem c_X8_isSet (l : Launch) (D : va_G) (cy : Nat → ClassId) (A : Nat → Nat) (X : va_W) (A0 : Nat → Prop) (v : Nat → Int32) (r : Nat → Nat → Int32) (a1 : Int32) (res : Bool) (hres : f_X8_isSet v r a1 = res) : Met l yX8_isSet wsX8_isSet rm_X8_isSet (va_Pc [.ref (A 0), .int a1] (GW D (tyM cy) (pcM cy A v r ++ X) A0)) (QR (.int (bI res))) 0 0 (fun _ => False) := by
  refine Met.ofW (cc := cX8_isSet) (maxL := 2) (ret := (some .boolean)) (by decide) rfl ?_
  intro p e s m args below meth c s₁ B hml hv
  obtain ⟨hargs, hP, hK, hD0, hN⟩ := hv
  have hx := B.exec
  have hb := B.bytes
  have hr := B.returns
  have hts := atoms_spec (ws := wsX8_isSet) B.pre
  have hown : s.vm.findClass RX8 = some m.cls := findClass_of_methodNamed B.named
  have hlocks := B.notSynchronized
  have hI : IW D (pcM cy A v r ++ X) A0 s.heap s.heap [] := ⟨hP, hD0, va_S.rf⟩
  have in8 : ∀ w ∈ wsX80, w ∈ wsX8_isSet := fun _ h => List.mem_cons_of_mem _ (List.mem_append_right _ h)
  have hl := lv_entry ([.ref (A 0), .int a1]) (n := 2) (Nat.le_of_ble_eq_true rfl)
  have hE : entryFrame m args 2 = F0 m 0 ((lg_sl ([.ref (A 0), .int a1]) ++ List.replicate (2 - (lg_sl ([.ref (A 0), .int a1])).length) Slot.unset).toArray) [] := by rw [hargs]; exact lg_entry_eq m [.ref (A 0), .int a1] 2
  rw [hE]
  generalize (lg_sl ([.ref (A 0), .int a1]) ++ List.replicate (2 - (lg_sl ([.ref (A 0), .int a1])).length) Slot.unset).toArray = ls at hl ⊢
  have hl : lv_has ls 2 [(0, .ref (A 0)), (1, .int a1)] := hl
  unfold f_X8_isSet at hres
  refine lv_iload_n hx hb dX8_isSet_0 rfl (lv_at hl 1 rfl) ?_
  refine lv_if_lt (tgt := 18) hx hb dX8_isSet_1 (by decide) (fun c1 => ?_) (fun c1 => ?_)
  · replace hres := (if_pos c1).symm.trans hres
    refine lv_iconst (v := 0) hx hb dX8_isSet_18 (by decide) ?_
    obtain rfl := hres
    exact W.zret hx hb hr rfl (fun t ht hW => ⟨rfl, ht⟩) (fun _ h => absurd h List.not_mem_nil) dX8_isSet_19
  · replace hres := (if_neg c1).symm.trans hres
    refine lv_iload_n hx hb dX8_isSet_4 rfl (lv_at hl 1 rfl) ?_
    refine lv_iconst (v := 1) hx hb dX8_isSet_5 (by decide) ?_
    refine lv_aload_n hx hb dX8_isSet_6 rfl (lv_at hl 0 rfl) ?_
    refine gM_articles hx hb hts in8 hown hK hI (hts (.fieldLink RX8 74 "TrickHouseModel" "articles" "I") (by decide +kernel)) dX8_isSet_7 ?_
    refine lv_ishl hx hb dX8_isSet_10 ?_
    refine lv_icmp_ge (tgt := 18) hx hb dX8_isSet_11 (by decide) (fun c2 => ?_) (fun c2 => ?_)
    · replace hres := (if_pos c2).symm.trans hres
      refine lv_iconst (v := 0) hx hb dX8_isSet_18 (by decide) ?_
      obtain rfl := hres
      exact W.zret hx hb hr rfl (fun t ht hW => ⟨rfl, ht⟩) (fun _ h => absurd h List.not_mem_nil) dX8_isSet_19
    · replace hres := (if_neg c2).symm.trans hres
      refine lv_iconst (v := 1) hx hb dX8_isSet_14 (by decide) ?_
      refine lv_goto (tgt := 19) hx hb dX8_isSet_15 (by decide) ?_
      obtain rfl := hres
      exact W.zret hx hb hr rfl (fun t ht hW => ⟨rfl, ht⟩) (fun _ h => absurd h List.not_mem_nil) dX8_isSet_19
abbrev rm_X8_isOf : Room := { frames := 0, cells := 0, slots := 0, locals := 0 }
def f_X8_isOf (a0 : Int32) (a1 : Int32) : Bool := (if ((a0 >>> (a1 &&& 31)) &&& 1) = 1 then (true) else (false))
set_option maxHeartbeats 4000000 in
set_option maxRecDepth 100000 in
theorem c_X8_isOf (l : Launch) (a0 : Int32) (a1 : Int32) (res : Bool) (hres : f_X8_isOf a0 a1 = res) : Met l yX8_isOf wsX8_isOf rm_X8_isOf (va_Pc [.int a0, .int a1] NW) (QR (.int (bI res))) 0 0 (fun _ => False) := by
  refine Met.ofW (cc := cX8_isOf) (maxL := 2) (ret := (some .boolean)) (by decide) rfl ?_
  intro p e s m args below meth c s₁ B hml hv
  obtain ⟨hargs, hN⟩ := hv
  have hx := B.exec
  have hb := B.bytes
  have hr := B.returns
  have hts := atoms_spec (ws := wsX8_isOf) B.pre
  have hown : s.vm.findClass RX8 = some m.cls := findClass_of_methodNamed B.named
  have hlocks := B.notSynchronized
  have hl := lv_entry ([.int a0, .int a1]) (n := 2) (Nat.le_of_ble_eq_true rfl)
  have hE : entryFrame m args 2 = F0 m 0 ((lg_sl ([.int a0, .int a1]) ++ List.replicate (2 - (lg_sl ([.int a0, .int a1])).length) Slot.unset).toArray) [] := by rw [hargs]; exact lg_entry_eq m [.int a0, .int a1] 2
  rw [hE]
  generalize (lg_sl ([.int a0, .int a1]) ++ List.replicate (2 - (lg_sl ([.int a0, .int a1])).length) Slot.unset).toArray = ls at hl ⊢
  have hl : lv_has ls 2 [(0, .int a0), (1, .int a1)] := hl
  unfold f_X8_isOf at hres
  refine lv_iload_n hx hb dX8_isOf_0 rfl (lv_at hl 0 rfl) ?_
  refine lv_iload_n hx hb dX8_isOf_1 rfl (lv_at hl 1 rfl) ?_
  refine lv_ishr hx hb dX8_isOf_2 ?_
  refine lv_iconst (v := 1) hx hb dX8_isOf_3 (by decide) ?_
  refine lv_iand hx hb dX8_isOf_4 ?_
  refine lv_iconst (v := 1) hx hb dX8_isOf_5 (by decide) ?_
  refine lv_icmp_ne (tgt := 13) hx hb dX8_isOf_6 (by decide) (fun c1 => ?_) (fun c1 => ?_)
  · replace hres := (if_neg c1).symm.trans hres
    refine lv_iconst (v := 0) hx hb dX8_isOf_13 (by decide) ?_
    obtain rfl := hres
    exact W.zret hx hb hr rfl (fun t ht hW => ⟨rfl, ht⟩) (fun _ h => absurd h List.not_mem_nil) dX8_isOf_14
  · replace hres := (if_pos c1).symm.trans hres
    refine lv_iconst (v := 1) hx hb dX8_isOf_9 (by decide) ?_
    refine lv_goto (tgt := 14) hx hb dX8_isOf_10 (by decide) ?_
    obtain rfl := hres
    exact W.zret hx hb hr rfl (fun t ht hW => ⟨rfl, ht⟩) (fun _ h => absurd h List.not_mem_nil) dX8_isOf_14
abbrev rm_X8_digit : Room := { frames := 1, cells := 0, slots := 0, locals := 22 }
def f_X8_digit (v : Nat → Int32) (r : Nat → Nat → Int32) (a1 : Int32) (a2 : Int32) (a3 : Int32) : Option (Int32 × ST) := (if a1 ≤ (v 6) then some ((-9), (v, r)) else if inR (v 6) 240 = true then (if (f_X8_within (r 2 (v 6).toNatClampNeg) (48 + a2) (48 + a3)) = true then if inR (((upd v 6 ((v 6) + 1)) 6) - 1) 240 = true then some (((r 2 (((upd v 6 ((v 6) + 1)) 6) - 1).toNatClampNeg) - 48), ((upd v 6 ((v 6) + 1)), r)) else none else some ((-9), (v, r))) else none)
set_option maxHeartbeats 4000000 in
set_option maxRecDepth 100000 in
theorem c_X8_digit (l : Launch) (D : va_G) (cy : Nat → ClassId) (A : Nat → Nat) (X : va_W) (A0 : Nat → Prop) (v : Nat → Int32) (r : Nat → Nat → Int32) (a1 : Int32) (a2 : Int32) (a3 : Int32) (res : Int32) (v2 : Nat → Int32) (r2 : Nat → Nat → Int32) (hres : f_X8_digit v r a1 a2 a3 = some (res, (v2, r2))) : Met l yX8_digit wsX8_digit rm_X8_digit (va_Pc [.ref (A 0), .int a1, .int a2, .int a3] (GW D (tyM cy) (pcM cy A v r ++ X) A0)) (QW (some (.int res)) (GW D (tyM cy) (pcM cy A v2 r2 ++ X) A0) A0) 0 0 A0 := by
  refine Met.ofW (cc := cX8_digit) (maxL := 4) (ret := (some .int)) (by decide) rfl ?_
  intro p e s m args below meth c s₁ B hml hv
  obtain ⟨hargs, hP, hK, hD0, hN⟩ := hv
  have hx := B.exec
  have hb := B.bytes
  have hr := B.returns
  have hts := atoms_spec (ws := wsX8_digit) B.pre
  have hown : s.vm.findClass RX8 = some m.cls := findClass_of_methodNamed B.named
  have hlocks := B.notSynchronized
  have hI : IW D (pcM cy A v r ++ X) A0 s.heap s.heap [] := ⟨hP, hD0, va_S.rf⟩
  have S : CallFix p m c cX8_digit 4 s args wsX8_digit RX8 := ⟨hx, hb, hml, hown, hts⟩
  have in8 : ∀ w ∈ wsX80, w ∈ wsX8_digit := fun _ h => List.mem_cons_of_mem _ (List.mem_append_right _ h)
  have hl := lv_entry ([.ref (A 0), .int a1, .int a2, .int a3]) (n := 4) (Nat.le_of_ble_eq_true rfl)
  have hE : entryFrame m args 4 = F0 m 0 ((lg_sl ([.ref (A 0), .int a1, .int a2, .int a3]) ++ List.replicate (4 - (lg_sl ([.ref (A 0), .int a1, .int a2, .int a3])).length) Slot.unset).toArray) [] := by rw [hargs]; exact lg_entry_eq m [.ref (A 0), .int a1, .int a2, .int a3] 4
  rw [hE]
  generalize (lg_sl ([.ref (A 0), .int a1, .int a2, .int a3]) ++ List.replicate (4 - (lg_sl ([.ref (A 0), .int a1, .int a2, .int a3])).length) Slot.unset).toArray = ls at hl ⊢
  have hl : lv_has ls 4 [(0, .ref (A 0)), (1, .int a1), (2, .int a2), (3, .int a3)] := hl
  unfold f_X8_digit at hres
  refine lv_aload_n hx hb dX8_digit_0 rfl (lv_at hl 0 rfl) ?_
  refine gM_at hx hb hts in8 hown hK hI (hts (.fieldLink RX8 80 "TrickHouseModel" "at" "I") (by decide +kernel)) dX8_digit_1 ?_
  refine lv_iload_n hx hb dX8_digit_4 rfl (lv_at hl 1 rfl) ?_
  refine lv_icmp_ge (tgt := 31) hx hb dX8_digit_5 (by decide) (fun c1 => ?_) (fun c1 => ?_)
  · replace hres := (if_pos c1).symm.trans hres
    refine lv_bipush (v := (-9)) hx hb dX8_digit_31 (by decide) ?_
    obtain ⟨rfl, rfl, rfl⟩ := pr3 hres
    exact W.iret hx hb hr (fun t ht hW => ⟨rfl, ⟨by rw [ht]; exact hI.1, va_K.moved hW.alike hK, hI.2.1, NW.warm hW hN⟩, hI.2.2.F ht⟩) hI.2.2.2.2 dX8_digit_33
  · replace hres := (if_neg c1).symm.trans hres
    refine lv_aload_n hx hb dX8_digit_8 rfl (lv_at hl 0 rfl) ?_
    refine gM_cells hx hb hts in8 hown hK hI (hts (.fieldLink RX8 16 "TrickHouseModel" "cells" "[I") (by decide +kernel)) dX8_digit_9 ?_
    refine lv_aload_n hx hb dX8_digit_12 rfl (lv_at hl 0 rfl) ?_
    refine gM_at hx hb hts in8 hown hK hI (hts (.fieldLink RX8 80 "TrickHouseModel" "at" "I") (by decide +kernel)) dX8_digit_13 ?_
    obtain ⟨g2, hres⟩ := gd hres
    refine th_ild hx hb hK hI 3 0 rfl rfl g2 dX8_digit_16 ?_
    refine lv_bipush (v := 48) hx hb dX8_digit_17 (by decide) ?_
    refine lv_iload_n hx hb dX8_digit_19 rfl (lv_at hl 2 rfl) ?_
    refine lv_iadd hx hb dX8_digit_20 ?_
    refine lv_bipush (v := 48) hx hb dX8_digit_21 (by decide) ?_
    refine lv_iload_n hx hb dX8_digit_23 rfl (lv_at hl 3 rfl) ?_
    refine lv_iadd hx hb dX8_digit_24 ?_
    refine pu_s S (c_X8_within l (r 2 (v 6).toNatClampNeg) (48 + a2) (48 + a3) _ rfl) (va_cwS 3 hts gX8_digit_X8_within rfl rfl rfl (by decide +kernel) ⟨Nat.le_of_ble_eq_true rfl, Nat.le_of_ble_eq_true rfl⟩) hN rfl hl.1 rfl (Nat.le_of_ble_eq_true rfl) dX8_digit_25 ⟨Nat.zero_le _, Nat.zero_le _⟩ ?_
    refine lv_if_ne (tgt := 34) hx hb dX8_digit_28 (by decide) (fun c4 => ?_) (fun c4 => ?_)
    · replace hres := (if_pos (bI_t c4)).symm.trans hres
      refine lv_aload_n hx hb dX8_digit_34 rfl (lv_at hl 0 rfl) ?_
      refine lv_dup hx hb dX8_digit_35 rfl ?_
      refine gM_at hx hb hts in8 hown hK hI (hts (.fieldLink RX8 80 "TrickHouseModel" "at" "I") (by decide +kernel)) dX8_digit_36 ?_
      refine lv_iconst (v := 1) hx hb dX8_digit_39 (by decide) ?_
      refine lv_iadd hx hb dX8_digit_40 ?_
      refine pM_at hx hb hts in8 hown hK hI (hts (.fieldLink RX8 80 "TrickHouseModel" "at" "I") (by decide +kernel)) dX8_digit_41 (fun H locs hI => ?_)
      refine lv_aload_n hx hb dX8_digit_44 rfl (lv_at hl 0 rfl) ?_
      refine gM_cells hx hb hts in8 hown hK hI (hts (.fieldLink RX8 16 "TrickHouseModel" "cells" "[I") (by decide +kernel)) dX8_digit_45 ?_
      refine lv_aload_n hx hb dX8_digit_48 rfl (lv_at hl 0 rfl) ?_
      refine gM_at hx hb hts in8 hown hK hI (hts (.fieldLink RX8 80 "TrickHouseModel" "at" "I") (by decide +kernel)) dX8_digit_49 ?_
      refine lv_iconst (v := 1) hx hb dX8_digit_52 (by decide) ?_
      refine lv_isub hx hb dX8_digit_53 ?_
      obtain ⟨g5, hres⟩ := gd hres
      refine th_ild hx hb hK hI 3 0 rfl rfl g5 dX8_digit_54 ?_
      refine lv_bipush (v := 48) hx hb dX8_digit_55 (by decide) ?_
      refine lv_isub hx hb dX8_digit_57 ?_
      obtain ⟨rfl, rfl, rfl⟩ := pr3 hres
      exact W.iret hx hb hr (fun t ht hW => ⟨rfl, ⟨by rw [ht]; exact hI.1, va_K.moved hW.alike hK, hI.2.1, NW.warm hW hN⟩, hI.2.2.F ht⟩) hI.2.2.2.2 dX8_digit_58
    · replace hres := (if_neg (bI_f c4)).symm.trans hres
      refine lv_bipush (v := (-9)) hx hb dX8_digit_31 (by decide) ?_
      obtain ⟨rfl, rfl, rfl⟩ := pr3 hres
      exact W.iret hx hb hr (fun t ht hW => ⟨rfl, ⟨by rw [ht]; exact hI.1, va_K.moved hW.alike hK, hI.2.1, NW.warm hW hN⟩, hI.2.2.F ht⟩) hI.2.2.2.2 dX8_digit_33
abbrev rm_X8_isSign : Room := { frames := 0, cells := 0, slots := 0, locals := 0 }
def f_X8_isSign (v : Nat → Int32) (r : Nat → Nat → Int32) (a1 : Int32) (a2 : Int32) : Option (Bool × ST) := (if a1 ≤ (v 6) then some (false, (v, r)) else if inR (v 6) 240 = true then (if (r 2 (v 6).toNatClampNeg) = a2 then some (true, ((upd v 6 ((v 6) + 1)), r)) else some (false, (v, r))) else none)
set_option maxHeartbeats 4000000 in
set_option maxRecDepth 100000 in
theorem c_X8_isSign (l : Launch) (D : va_G) (cy : Nat → ClassId) (A : Nat → Nat) (X : va_W) (A0 : Nat → Prop) (v : Nat → Int32) (r : Nat → Nat → Int32) (a1 : Int32) (a2 : Int32) (res : Bool) (v2 : Nat → Int32) (r2 : Nat → Nat → Int32) (hres : f_X8_isSign v r a1 a2 = some (res, (v2, r2))) : Met l yX8_isSign wsX8_isSign rm_X8_isSign (va_Pc [.ref (A 0), .int a1, .int a2] (GW D (tyM cy) (pcM cy A v r ++ X) A0)) (QW (some (.int (bI res))) (GW D (tyM cy) (pcM cy A v2 r2 ++ X) A0) A0) 0 0 A0 := by
  refine Met.ofW (cc := cX8_isSign) (maxL := 3) (ret := (some .boolean)) (by decide) rfl ?_
  intro p e s m args below meth c s₁ B hml hv
  obtain ⟨hargs, hP, hK, hD0, hN⟩ := hv
  have hx := B.exec
  have hb := B.bytes
  have hr := B.returns
  have hts := atoms_spec (ws := wsX8_isSign) B.pre
  have hown : s.vm.findClass RX8 = some m.cls := findClass_of_methodNamed B.named
  have hlocks := B.notSynchronized
  have hI : IW D (pcM cy A v r ++ X) A0 s.heap s.heap [] := ⟨hP, hD0, va_S.rf⟩
  have in8 : ∀ w ∈ wsX80, w ∈ wsX8_isSign := fun _ h => List.mem_cons_of_mem _ (List.mem_append_right _ h)
  have hl := lv_entry ([.ref (A 0), .int a1, .int a2]) (n := 3) (Nat.le_of_ble_eq_true rfl)
  have hE : entryFrame m args 3 = F0 m 0 ((lg_sl ([.ref (A 0), .int a1, .int a2]) ++ List.replicate (3 - (lg_sl ([.ref (A 0), .int a1, .int a2])).length) Slot.unset).toArray) [] := by rw [hargs]; exact lg_entry_eq m [.ref (A 0), .int a1, .int a2] 3
  rw [hE]
  generalize (lg_sl ([.ref (A 0), .int a1, .int a2]) ++ List.replicate (3 - (lg_sl ([.ref (A 0), .int a1, .int a2])).length) Slot.unset).toArray = ls at hl ⊢
  have hl : lv_has ls 3 [(0, .ref (A 0)), (1, .int a1), (2, .int a2)] := hl
  unfold f_X8_isSign at hres
  refine lv_aload_n hx hb dX8_isSign_0 rfl (lv_at hl 0 rfl) ?_
  refine gM_at hx hb hts in8 hown hK hI (hts (.fieldLink RX8 80 "TrickHouseModel" "at" "I") (by decide +kernel)) dX8_isSign_1 ?_
  refine lv_iload_n hx hb dX8_isSign_4 rfl (lv_at hl 1 rfl) ?_
  refine lv_icmp_ge (tgt := 21) hx hb dX8_isSign_5 (by decide) (fun c1 => ?_) (fun c1 => ?_)
  · replace hres := (if_pos c1).symm.trans hres
    refine lv_iconst (v := 0) hx hb dX8_isSign_21 (by decide) ?_
    obtain ⟨rfl, rfl, rfl⟩ := pr3 hres
    exact W.zret hx hb hr rfl (fun t ht hW => ⟨rfl, ⟨by rw [ht]; exact hI.1, va_K.moved hW.alike hK, hI.2.1, NW.warm hW hN⟩, hI.2.2.F ht⟩) hI.2.2.2.2 dX8_isSign_22
  · replace hres := (if_neg c1).symm.trans hres
    refine lv_aload_n hx hb dX8_isSign_8 rfl (lv_at hl 0 rfl) ?_
    refine gM_cells hx hb hts in8 hown hK hI (hts (.fieldLink RX8 16 "TrickHouseModel" "cells" "[I") (by decide +kernel)) dX8_isSign_9 ?_
    refine lv_aload_n hx hb dX8_isSign_12 rfl (lv_at hl 0 rfl) ?_
    refine gM_at hx hb hts in8 hown hK hI (hts (.fieldLink RX8 80 "TrickHouseModel" "at" "I") (by decide +kernel)) dX8_isSign_13 ?_
    obtain ⟨g2, hres⟩ := gd hres
    refine th_ild hx hb hK hI 3 0 rfl rfl g2 dX8_isSign_16 ?_
    refine lv_iload_n hx hb dX8_isSign_17 rfl (lv_at hl 2 rfl) ?_
    refine lv_icmp_eq (tgt := 23) hx hb dX8_isSign_18 (by decide) (fun c3 => ?_) (fun c3 => ?_)
    · replace hres := (if_pos c3).symm.trans hres
      refine lv_aload_n hx hb dX8_isSign_23 rfl (lv_at hl 0 rfl) ?_
      refine lv_dup hx hb dX8_isSign_24 rfl ?_
      refine gM_at hx hb hts in8 hown hK hI (hts (.fieldLink RX8 80 "TrickHouseModel" "at" "I") (by decide +kernel)) dX8_isSign_25 ?_
      refine lv_iconst (v := 1) hx hb dX8_isSign_28 (by decide) ?_
      refine lv_iadd hx hb dX8_isSign_29 ?_
      refine pM_at hx hb hts in8 hown hK hI (hts (.fieldLink RX8 80 "TrickHouseModel" "at" "I") (by decide +kernel)) dX8_isSign_30 (fun H locs hI => ?_)
      refine lv_iconst (v := 1) hx hb dX8_isSign_33 (by decide) ?_
      obtain ⟨rfl, rfl, rfl⟩ := pr3 hres
      exact W.zret hx hb hr rfl (fun t ht hW => ⟨rfl, ⟨by rw [ht]; exact hI.1, va_K.moved hW.alike hK, hI.2.1, NW.warm hW hN⟩, hI.2.2.F ht⟩) hI.2.2.2.2 dX8_isSign_34
    · replace hres := (if_neg c3).symm.trans hres
      refine lv_iconst (v := 0) hx hb dX8_isSign_21 (by decide) ?_
      obtain ⟨rfl, rfl, rfl⟩ := pr3 hres
      exact W.zret hx hb hr rfl (fun t ht hW => ⟨rfl, ⟨by rw [ht]; exact hI.1, va_K.moved hW.alike hK, hI.2.1, NW.warm hW hN⟩, hI.2.2.F ht⟩) hI.2.2.2.2 dX8_isSign_22
abbrev rm_X8_readTheRooms : Room := { frames := 2, cells := 0, slots := 0, locals := 45 }
def f_X8_readTheRooms_5 (a1 : Int32) : Nat → (Nat → Int32) → (Nat → Nat → Int32) → Option (Bool × ST)
  | 0, _, _ => none
  | n5 + 1, v, r => (if 4 ≤ (v 8) then some (true, (v, r)) else (f_X8_digit v r a1 (1 : Int32) (9 : Int32)).bind (fun y2 => (if y2.1 = (-9) then (if (y2.2.1 8) ≤ 0 then some (false, (y2.2.1, y2.2.2)) else some (true, (y2.2.1, y2.2.2))) else if inR (y2.2.1 8) 4 = true then f_X8_readTheRooms_5 a1 n5 (upd y2.2.1 8 ((y2.2.1 8) + 1)) (va_up y2.2.2 8 (upd (y2.2.2 8) (y2.2.1 8).toNatClampNeg y2.1)) else none)))
theorem f_X8_readTheRooms_5_s (a1 : Int32) (n5 : Nat) (v : (Nat → Int32)) (r : (Nat → Nat → Int32)) : f_X8_readTheRooms_5 a1 (n5 + 1) v r = (if 4 ≤ (v 8) then some (true, (v, r)) else (f_X8_digit v r a1 (1 : Int32) (9 : Int32)).bind (fun y2 => (if y2.1 = (-9) then (if (y2.2.1 8) ≤ 0 then some (false, (y2.2.1, y2.2.2)) else some (true, (y2.2.1, y2.2.2))) else if inR (y2.2.1 8) 4 = true then f_X8_readTheRooms_5 a1 n5 (upd y2.2.1 8 ((y2.2.1 8) + 1)) (va_up y2.2.2 8 (upd (y2.2.2 8) (y2.2.1 8).toNatClampNeg y2.1)) else none))) := rfl
def f_X8_readTheRooms (v : Nat → Int32) (r : Nat → Nat → Int32) (a1 : Int32) : Option (Bool × ST) := f_X8_readTheRooms_5 a1 80 (upd v 8 0) r
set_option maxHeartbeats 4000000 in
set_option maxRecDepth 100000 in
theorem c_X8_readTheRooms (l : Launch) (D : va_G) (cy : Nat → ClassId) (A : Nat → Nat) (X : va_W) (A0 : Nat → Prop) (v : Nat → Int32) (r : Nat → Nat → Int32) (a1 : Int32) (res : Bool) (v2 : Nat → Int32) (r2 : Nat → Nat → Int32) (hres : f_X8_readTheRooms v r a1 = some (res, (v2, r2))) : Met l yX8_readTheRooms wsX8_readTheRooms rm_X8_readTheRooms (va_Pc [.ref (A 0), .int a1] (GW D (tyM cy) (pcM cy A v r ++ X) A0)) (QW (some (.int (bI res))) (GW D (tyM cy) (pcM cy A v2 r2 ++ X) A0) A0) 0 0 A0 := by
  refine Met.ofW (cc := cX8_readTheRooms) (maxL := 3) (ret := (some .boolean)) (by decide) rfl ?_
  intro p e s m args below meth c s₁ B hml hv
  obtain ⟨hargs, hP, hK, hD0, hN⟩ := hv
  have hx := B.exec
  have hb := B.bytes
  have hr := B.returns
  have hts := atoms_spec (ws := wsX8_readTheRooms) B.pre
  have hown : s.vm.findClass RX8 = some m.cls := findClass_of_methodNamed B.named
  have hlocks := B.notSynchronized
  have hI : IW D (pcM cy A v r ++ X) A0 s.heap s.heap [] := ⟨hP, hD0, va_S.rf⟩
  have S : CallFix p m c cX8_readTheRooms 3 s args wsX8_readTheRooms RX8 := ⟨hx, hb, hml, hown, hts⟩
  have in8 : ∀ w ∈ wsX80, w ∈ wsX8_readTheRooms := fun _ h => List.mem_cons_of_mem _ (List.mem_append_right _ h)
  have hl := lv_entry ([.ref (A 0), .int a1]) (n := 3) (Nat.le_of_ble_eq_true rfl)
  have hE : entryFrame m args 3 = F0 m 0 ((lg_sl ([.ref (A 0), .int a1]) ++ List.replicate (3 - (lg_sl ([.ref (A 0), .int a1])).length) Slot.unset).toArray) [] := by rw [hargs]; exact lg_entry_eq m [.ref (A 0), .int a1] 3
  rw [hE]
  generalize (lg_sl ([.ref (A 0), .int a1]) ++ List.replicate (3 - (lg_sl ([.ref (A 0), .int a1])).length) Slot.unset).toArray = ls at hl ⊢
  have hl : lv_has ls 3 [(0, .ref (A 0)), (1, .int a1)] := hl
  unfold f_X8_readTheRooms at hres
  refine lv_aload_n hx hb dX8_readTheRooms_0 rfl (lv_at hl 0 rfl) ?_
  refine lv_iconst (v := 0) hx hb dX8_readTheRooms_1 (by decide) ?_
  refine pM_readRooms hx hb hts in8 hown hK hI (hts (.fieldLink RX8 110 "TrickHouseModel" "readRooms" "I") (by decide +kernel)) dX8_readTheRooms_2 (fun H locs hI => ?_)
  have w5 : ∀ (n5 : Nat) (v : (Nat → Int32)) (r : (Nat → Nat → Int32)), ∀ (H : Heap) (locs : List Loc), IW D (pcM cy A v r ++ X) A0 s.heap H locs → f_X8_readTheRooms_5 a1 n5 v r = some (res, (v2, r2)) → ∀ ls : Array Slot, lv_has ls 3 [(0, .ref (A 0)), (1, .int a1)] → W p l e (headSpec wsX8_readTheRooms rm_X8_readTheRooms).room s m args below meth c H locs 0 0 (MQ below (QW (some (.int (bI res))) (GW D (tyM cy) (pcM cy A v2 r2 ++ X) A0) A0) args s 0 0 A0) (F0 m 5 ls []) := by
    intro n5
    induction n5 with
    | zero =>
      intro v r H locs hI hres
      have hres : (none : Option (Bool × ST)) = some (res, (v2, r2)) := hres
      cases hres
    | succ n5 ih5 =>
      intro v r H locs hI hres ls hl
      replace hres := (f_X8_readTheRooms_5_s a1 n5 v r).symm.trans hres
      refine lv_aload_n hx hb dX8_readTheRooms_5 rfl (lv_at hl 0 rfl) ?_
      refine gM_readRooms hx hb hts in8 hown hK hI (hts (.fieldLink RX8 110 "TrickHouseModel" "readRooms" "I") (by decide +kernel)) dX8_readTheRooms_6 ?_
      refine lv_iconst (v := 4) hx hb dX8_readTheRooms_9 (by decide) ?_
      refine lv_icmp_ge (tgt := 64) hx hb dX8_readTheRooms_10 (by decide) (fun c1 => ?_) (fun c1 => ?_)
      · replace hres := (if_pos c1).symm.trans hres
        refine lv_iconst (v := 1) hx hb dX8_readTheRooms_64 (by decide) ?_
        obtain ⟨rfl, rfl, rfl⟩ := pr3 hres
        exact W.zret hx hb hr rfl (fun t ht hW => ⟨rfl, ⟨by rw [ht]; exact hI.1, va_K.moved hW.alike hK, hI.2.1, NW.warm hW hN⟩, hI.2.2.F ht⟩) hI.2.2.2.2 dX8_readTheRooms_65
      · replace hres := (if_neg c1).symm.trans hres
        refine lv_aload_n hx hb dX8_readTheRooms_13 rfl (lv_at hl 0 rfl) ?_
        refine lv_iload_n hx hb dX8_readTheRooms_14 rfl (lv_at hl 1 rfl) ?_
        refine lv_iconst (v := 1) hx hb dX8_readTheRooms_15 (by decide) ?_
        refine lv_bipush (v := 9) hx hb dX8_readTheRooms_16 (by decide) ?_
        obtain ⟨y2, e2, hres⟩ := bd hres
        refine rw_v S (c_X8_digit l D cy A X A0 v r a1 (1 : Int32) (9 : Int32) y2.1 y2.2.1 y2.2.2 e2) (cwV 3 hts gX8_readTheRooms_X8_digit rfl rfl rfl (by decide +kernel) ⟨Nat.le_of_ble_eq_true rfl, Nat.le_of_ble_eq_true rfl⟩) hI hK hN (ci := 7) rfl (atM_0) rfl rfl hl.1 rfl (Nat.le_of_ble_eq_true rfl) dX8_readTheRooms_18 ⟨Nat.zero_le _, Nat.zero_le _⟩ (fun H locs hI => ?_)
        refine lv_istore_n (lv' := [(2, .int y2.1), (0, .ref (A 0)), (1, .int a1)]) hx hb dX8_readTheRooms_21 rfl hl (by decide) rfl (fun ls hl => ?_)
        refine lv_iload_n hx hb dX8_readTheRooms_22 rfl (lv_at hl 0 rfl) ?_
        refine lv_bipush (v := (-9)) hx hb dX8_readTheRooms_23 (by decide) ?_
        refine lv_icmp_ne (tgt := 41) hx hb dX8_readTheRooms_25 (by decide) (fun c3 => ?_) (fun c3 => ?_)
        · replace hres := (if_neg c3).symm.trans hres
          refine lv_aload_n hx hb dX8_readTheRooms_41 rfl (lv_at hl 1 rfl) ?_
          refine gM_readSpace hx hb hts in8 hown hK hI (hts (.fieldLink RX8 34 "TrickHouseModel" "readSpace" "[I") (by decide +kernel)) dX8_readTheRooms_42 ?_
          refine lv_aload_n hx hb dX8_readTheRooms_45 rfl (lv_at hl 1 rfl) ?_
          refine gM_readRooms hx hb hts in8 hown hK hI (hts (.fieldLink RX8 110 "TrickHouseModel" "readRooms" "I") (by decide +kernel)) dX8_readTheRooms_46 ?_
          refine lv_iload_n hx hb dX8_readTheRooms_49 rfl (lv_at hl 0 rfl) ?_
          obtain ⟨g4, hres⟩ := gd hres
          refine th_ist hx hb hK hI 9 0 rfl rfl g4 stM_r9 dX8_readTheRooms_50 (fun H locs hI => ?_)
          refine lv_aload_n hx hb dX8_readTheRooms_51 rfl (lv_at hl 1 rfl) ?_
          refine lv_dup hx hb dX8_readTheRooms_52 rfl ?_
          refine gM_readRooms hx hb hts in8 hown hK hI (hts (.fieldLink RX8 110 "TrickHouseModel" "readRooms" "I") (by decide +kernel)) dX8_readTheRooms_53 ?_
          refine lv_iconst (v := 1) hx hb dX8_readTheRooms_56 (by decide) ?_
          refine lv_iadd hx hb dX8_readTheRooms_57 ?_
          refine pM_readRooms hx hb hts in8 hown hK hI (hts (.fieldLink RX8 110 "TrickHouseModel" "readRooms" "I") (by decide +kernel)) dX8_readTheRooms_58 (fun H locs hI => ?_)
          refine lv_goto (tgt := 5) hx hb dX8_readTheRooms_61 (by decide) ?_
          exact ih5 (upd y2.2.1 8 ((y2.2.1 8) + 1)) (va_up y2.2.2 8 (upd (y2.2.2 8) (y2.2.1 8).toNatClampNeg y2.1)) _ _ hI hres ls (lv_sub hl [1, 2] rfl)
        · replace hres := (if_pos c3).symm.trans hres
          refine lv_aload_n hx hb dX8_readTheRooms_28 rfl (lv_at hl 1 rfl) ?_
          refine gM_readRooms hx hb hts in8 hown hK hI (hts (.fieldLink RX8 110 "TrickHouseModel" "readRooms" "I") (by decide +kernel)) dX8_readTheRooms_29 ?_
          refine lv_if_le (tgt := 39) hx hb dX8_readTheRooms_32 (by decide) (fun c5 => ?_) (fun c5 => ?_)
          · replace hres := (if_pos c5).symm.trans hres
            refine lv_iconst (v := 0) hx hb dX8_readTheRooms_39 (by decide) ?_
            obtain ⟨rfl, rfl, rfl⟩ := pr3 hres
            exact W.zret hx hb hr rfl (fun t ht hW => ⟨rfl, ⟨by rw [ht]; exact hI.1, va_K.moved hW.alike hK, hI.2.1, NW.warm hW hN⟩, hI.2.2.F ht⟩) hI.2.2.2.2 dX8_readTheRooms_40
          · replace hres := (if_neg c5).symm.trans hres
            refine lv_iconst (v := 1) hx hb dX8_readTheRooms_35 (by decide) ?_
            refine lv_goto (tgt := 40) hx hb dX8_readTheRooms_36 (by decide) ?_
            obtain ⟨rfl, rfl, rfl⟩ := pr3 hres
            exact W.zret hx hb hr rfl (fun t ht hW => ⟨rfl, ⟨by rw [ht]; exact hI.1, va_K.moved hW.alike hK, hI.2.1, NW.warm hW hN⟩, hI.2.2.F ht⟩) hI.2.2.2.2 dX8_readTheRooms_40
  exact w5 80 (upd v 8 0) r _ _ hI hres ls (lv_sub hl [0, 1] rfl)
abbrev rm_X8_readArticle : Room := { frames := 2, cells := 0, slots := 0, locals := 45 }
def f_X8_readArticle (v : Nat → Int32) (r : Nat → Nat → Int32) (a1 : Int32) : Option (Bool × ST) := (if a1 ≤ (v 6) then if inR (v 9) 6 = true then if inR (v 9) 6 = true then (if ((va_up r 9 (upd (r 9) (v 9).toNatClampNeg (-9))) 9 (v 9).toNatClampNeg) = (-9) then some (false, (v, (va_up r 9 (upd (r 9) (v 9).toNatClampNeg (-9))))) else (f_X8_digit (upd v 6 ((v 6) + 1)) (va_up r 9 (upd (r 9) (v 9).toNatClampNeg (-9))) a1 (1 : Int32) (9 : Int32)).bind (fun y8 => if inR (v 9) 6 = true then if inR (v 9) 6 = true then (if ((va_up y8.2.2 10 (upd (y8.2.2 10) (v 9).toNatClampNeg y8.1)) 10 (v 9).toNatClampNeg) = (-9) then some (false, (y8.2.1, (va_up y8.2.2 10 (upd (y8.2.2 10) (v 9).toNatClampNeg y8.1)))) else (f_X8_digit y8.2.1 (va_up y8.2.2 10 (upd (y8.2.2 10) (v 9).toNatClampNeg y8.1)) a1 (0 : Int32) (9 : Int32)).bind (fun y12 => if inR (v 9) 6 = true then if inR (v 9) 6 = true then (if ((va_up y12.2.2 11 (upd (y12.2.2 11) (v 9).toNatClampNeg y12.1)) 11 (v 9).toNatClampNeg) = (-9) then some (false, (y12.2.1, (va_up y12.2.2 11 (upd (y12.2.2 11) (v 9).toNatClampNeg y12.1)))) else (f_X8_digit y12.2.1 (va_up y12.2.2 11 (upd (y12.2.2 11) (v 9).toNatClampNeg y12.1)) a1 (0 : Int32) (4 : Int32)).bind (fun y16 => (if y16.1 = (-9) then some (false, (y16.2.1, y16.2.2)) else (f_X8_digit y16.2.1 y16.2.2 a1 (0 : Int32) (9 : Int32)).bind (fun y18 => if inR (v 9) 6 = true then (if y18.1 = (-9) then some (false, ((upd y18.2.1 9 ((y18.2.1 9) + 1)), (va_up y18.2.2 12 (upd (y18.2.2 12) (v 9).toNatClampNeg ((10 * y16.1) + y18.1))))) else some (true, ((upd y18.2.1 9 ((y18.2.1 9) + 1)), (va_up y18.2.2 12 (upd (y18.2.2 12) (v 9).toNatClampNeg ((10 * y16.1) + y18.1)))))) else none)))) else none else none)) else none else none)) else none else none else if inR (v 6) 240 = true then (if (r 2 (v 6).toNatClampNeg) = 116 then if inR (v 9) 6 = true then if inR (v 9) 6 = true then (if ((va_up r 9 (upd (r 9) (v 9).toNatClampNeg 0)) 9 (v 9).toNatClampNeg) = (-9) then some (false, (v, (va_up r 9 (upd (r 9) (v 9).toNatClampNeg 0)))) else (f_X8_digit (upd v 6 ((v 6) + 1)) (va_up r 9 (upd (r 9) (v 9).toNatClampNeg 0)) a1 (1 : Int32) (9 : Int32)).bind (fun y76 => if inR (v 9) 6 = true then if inR (v 9) 6 = true then (if ((va_up y76.2.2 10 (upd (y76.2.2 10) (v 9).toNatClampNeg y76.1)) 10 (v 9).toNatClampNeg) = (-9) then some (false, (y76.2.1, (va_up y76.2.2 10 (upd (y76.2.2 10) (v 9).toNatClampNeg y76.1)))) else (f_X8_digit y76.2.1 (va_up y76.2.2 10 (upd (y76.2.2 10) (v 9).toNatClampNeg y76.1)) a1 (0 : Int32) (9 : Int32)).bind (fun y80 => if inR (v 9) 6 = true then if inR (v 9) 6 = true then (if ((va_up y80.2.2 11 (upd (y80.2.2 11) (v 9).toNatClampNeg y80.1)) 11 (v 9).toNatClampNeg) = (-9) then some (false, (y80.2.1, (va_up y80.2.2 11 (upd (y80.2.2 11) (v 9).toNatClampNeg y80.1)))) else (f_X8_digit y80.2.1 (va_up y80.2.2 11 (upd (y80.2.2 11) (v 9).toNatClampNeg y80.1)) a1 (0 : Int32) (4 : Int32)).bind (fun y84 => (if y84.1 = (-9) then some (false, (y84.2.1, y84.2.2)) else (f_X8_digit y84.2.1 y84.2.2 a1 (0 : Int32) (9 : Int32)).bind (fun y86 => if inR (v 9) 6 = true then (if y86.1 = (-9) then some (false, ((upd y86.2.1 9 ((y86.2.1 9) + 1)), (va_up y86.2.2 12 (upd (y86.2.2 12) (v 9).toNatClampNeg ((10 * y84.1) + y86.1))))) else some (true, ((upd y86.2.1 9 ((y86.2.1 9) + 1)), (va_up y86.2.2 12 (upd (y86.2.2 12) (v 9).toNatClampNeg ((10 * y84.1) + y86.1)))))) else none)))) else none else none)) else none else none)) else none else none else (if (r 2 (v 6).toNatClampNeg) = 98 then if inR (v 9) 6 = true then if inR (v 9) 6 = true then (if ((va_up r 9 (upd (r 9) (v 9).toNatClampNeg 1)) 9 (v 9).toNatClampNeg) = (-9) then some (false, (v, (va_up r 9 (upd (r 9) (v 9).toNatClampNeg 1)))) else (f_X8_digit (upd v 6 ((v 6) + 1)) (va_up r 9 (upd (r 9) (v 9).toNatClampNeg 1)) a1 (1 : Int32) (9 : Int32)).bind (fun y60 => if inR (v 9) 6 = true then if inR (v 9) 6 = true then (if ((va_up y60.2.2 10 (upd (y60.2.2 10) (v 9).toNatClampNeg y60.1)) 10 (v 9).toNatClampNeg) = (-9) then some (false, (y60.2.1, (va_up y60.2.2 10 (upd (y60.2.2 10) (v 9).toNatClampNeg y60.1)))) else (f_X8_digit y60.2.1 (va_up y60.2.2 10 (upd (y60.2.2 10) (v 9).toNatClampNeg y60.1)) a1 (0 : Int32) (9 : Int32)).bind (fun y64 => if inR (v 9) 6 = true then if inR (v 9) 6 = true then (if ((va_up y64.2.2 11 (upd (y64.2.2 11) (v 9).toNatClampNeg y64.1)) 11 (v 9).toNatClampNeg) = (-9) then some (false, (y64.2.1, (va_up y64.2.2 11 (upd (y64.2.2 11) (v 9).toNatClampNeg y64.1)))) else (f_X8_digit y64.2.1 (va_up y64.2.2 11 (upd (y64.2.2 11) (v 9).toNatClampNeg y64.1)) a1 (0 : Int32) (4 : Int32)).bind (fun y68 => (if y68.1 = (-9) then some (false, (y68.2.1, y68.2.2)) else (f_X8_digit y68.2.1 y68.2.2 a1 (0 : Int32) (9 : Int32)).bind (fun y70 => if inR (v 9) 6 = true then (if y70.1 = (-9) then some (false, ((upd y70.2.1 9 ((y70.2.1 9) + 1)), (va_up y70.2.2 12 (upd (y70.2.2 12) (v 9).toNatClampNeg ((10 * y68.1) + y70.1))))) else some (true, ((upd y70.2.1 9 ((y70.2.1 9) + 1)), (va_up y70.2.2 12 (upd (y70.2.2 12) (v 9).toNatClampNeg ((10 * y68.1) + y70.1)))))) else none)))) else none else none)) else none else none)) else none else none else (if (r 2 (v 6).toNatClampNeg) = 112 then if inR (v 9) 6 = true then if inR (v 9) 6 = true then (if ((va_up r 9 (upd (r 9) (v 9).toNatClampNeg 2)) 9 (v 9).toNatClampNeg) = (-9) then some (false, (v, (va_up r 9 (upd (r 9) (v 9).toNatClampNeg 2)))) else (f_X8_digit (upd v 6 ((v 6) + 1)) (va_up r 9 (upd (r 9) (v 9).toNatClampNeg 2)) a1 (1 : Int32) (9 : Int32)).bind (fun y44 => if inR (v 9) 6 = true then if inR (v 9) 6 = true then (if ((va_up y44.2.2 10 (upd (y44.2.2 10) (v 9).toNatClampNeg y44.1)) 10 (v 9).toNatClampNeg) = (-9) then some (false, (y44.2.1, (va_up y44.2.2 10 (upd (y44.2.2 10) (v 9).toNatClampNeg y44.1)))) else (f_X8_digit y44.2.1 (va_up y44.2.2 10 (upd (y44.2.2 10) (v 9).toNatClampNeg y44.1)) a1 (0 : Int32) (9 : Int32)).bind (fun y48 => if inR (v 9) 6 = true then if inR (v 9) 6 = true then (if ((va_up y48.2.2 11 (upd (y48.2.2 11) (v 9).toNatClampNeg y48.1)) 11 (v 9).toNatClampNeg) = (-9) then some (false, (y48.2.1, (va_up y48.2.2 11 (upd (y48.2.2 11) (v 9).toNatClampNeg y48.1)))) else (f_X8_digit y48.2.1 (va_up y48.2.2 11 (upd (y48.2.2 11) (v 9).toNatClampNeg y48.1)) a1 (0 : Int32) (4 : Int32)).bind (fun y52 => (if y52.1 = (-9) then some (false, (y52.2.1, y52.2.2)) else (f_X8_digit y52.2.1 y52.2.2 a1 (0 : Int32) (9 : Int32)).bind (fun y54 => if inR (v 9) 6 = true then (if y54.1 = (-9) then some (false, ((upd y54.2.1 9 ((y54.2.1 9) + 1)), (va_up y54.2.2 12 (upd (y54.2.2 12) (v 9).toNatClampNeg ((10 * y52.1) + y54.1))))) else some (true, ((upd y54.2.1 9 ((y54.2.1 9) + 1)), (va_up y54.2.2 12 (upd (y54.2.2 12) (v 9).toNatClampNeg ((10 * y52.1) + y54.1)))))) else none)))) else none else none)) else none else none)) else none else none else if inR (v 9) 6 = true then if inR (v 9) 6 = true then (if ((va_up r 9 (upd (r 9) (v 9).toNatClampNeg (-9))) 9 (v 9).toNatClampNeg) = (-9) then some (false, (v, (va_up r 9 (upd (r 9) (v 9).toNatClampNeg (-9))))) else (f_X8_digit (upd v 6 ((v 6) + 1)) (va_up r 9 (upd (r 9) (v 9).toNatClampNeg (-9))) a1 (1 : Int32) (9 : Int32)).bind (fun y28 => if inR (v 9) 6 = true then if inR (v 9) 6 = true then (if ((va_up y28.2.2 10 (upd (y28.2.2 10) (v 9).toNatClampNeg y28.1)) 10 (v 9).toNatClampNeg) = (-9) then some (false, (y28.2.1, (va_up y28.2.2 10 (upd (y28.2.2 10) (v 9).toNatClampNeg y28.1)))) else (f_X8_digit y28.2.1 (va_up y28.2.2 10 (upd (y28.2.2 10) (v 9).toNatClampNeg y28.1)) a1 (0 : Int32) (9 : Int32)).bind (fun y32 => if inR (v 9) 6 = true then if inR (v 9) 6 = true then (if ((va_up y32.2.2 11 (upd (y32.2.2 11) (v 9).toNatClampNeg y32.1)) 11 (v 9).toNatClampNeg) = (-9) then some (false, (y32.2.1, (va_up y32.2.2 11 (upd (y32.2.2 11) (v 9).toNatClampNeg y32.1)))) else (f_X8_digit y32.2.1 (va_up y32.2.2 11 (upd (y32.2.2 11) (v 9).toNatClampNeg y32.1)) a1 (0 : Int32) (4 : Int32)).bind (fun y36 => (if y36.1 = (-9) then some (false, (y36.2.1, y36.2.2)) else (f_X8_digit y36.2.1 y36.2.2 a1 (0 : Int32) (9 : Int32)).bind (fun y38 => if inR (v 9) 6 = true then (if y38.1 = (-9) then some (false, ((upd y38.2.1 9 ((y38.2.1 9) + 1)), (va_up y38.2.2 12 (upd (y38.2.2 12) (v 9).toNatClampNeg ((10 * y36.1) + y38.1))))) else some (true, ((upd y38.2.1 9 ((y38.2.1 9) + 1)), (va_up y38.2.2 12 (upd (y38.2.2 12) (v 9).toNatClampNeg ((10 * y36.1) + y38.1)))))) else none)))) else none else none)) else none else none)) else none else none))) else none)
set_option maxHeartbeats 4000000 in
set_option maxRecDepth 100000 in
theorem c_X8_readArticle (l : Launch) (D : va_G) (cy : Nat → ClassId) (A : Nat → Nat) (X : va_W) (A0 : Nat → Prop) (v : Nat → Int32) (r : Nat → Nat → Int32) (a1 : Int32) (res : Bool) (v2 : Nat → Int32) (r2 : Nat → Nat → Int32) (hres : f_X8_readArticle v r a1 = some (res, (v2, r2))) : Met l yX8_readArticle wsX8_readArticle rm_X8_readArticle (va_Pc [.ref (A 0), .int a1] (GW D (tyM cy) (pcM cy A v r ++ X) A0)) (QW (some (.int (bI res))) (GW D (tyM cy) (pcM cy A v2 r2 ++ X) A0) A0) 0 0 A0 := by
  refine Met.ofW (cc := cX8_readArticle) (maxL := 6) (ret := (some .boolean)) (by decide) rfl ?_
  intro p e s m args below meth c s₁ B hml hv
  obtain ⟨hargs, hP, hK, hD0, hN⟩ := hv
  have hx := B.exec
  have hb := B.bytes
  have hr := B.returns
  have hts := atoms_spec (ws := wsX8_readArticle) B.pre
  have hown : s.vm.findClass RX8 = some m.cls := findClass_of_methodNamed B.named
  have hlocks := B.notSynchronized
  have hI : IW D (pcM cy A v r ++ X) A0 s.heap s.heap [] := ⟨hP, hD0, va_S.rf⟩
  have S : CallFix p m c cX8_readArticle 6 s args wsX8_readArticle RX8 := ⟨hx, hb, hml, hown, hts⟩
  have in8 : ∀ w ∈ wsX80, w ∈ wsX8_readArticle := fun _ h => List.mem_cons_of_mem _ (List.mem_append_right _ h)
  have hl := lv_entry ([.ref (A 0), .int a1]) (n := 6) (Nat.le_of_ble_eq_true rfl)
  have hE : entryFrame m args 6 = F0 m 0 ((lg_sl ([.ref (A 0), .int a1]) ++ List.replicate (6 - (lg_sl ([.ref (A 0), .int a1])).length) Slot.unset).toArray) [] := by rw [hargs]; exact lg_entry_eq m [.ref (A 0), .int a1] 6
  rw [hE]
  generalize (lg_sl ([.ref (A 0), .int a1]) ++ List.replicate (6 - (lg_sl ([.ref (A 0), .int a1])).length) Slot.unset).toArray = ls at hl ⊢
  have hl : lv_has ls 6 [(0, .ref (A 0)), (1, .int a1)] := hl
  unfold f_X8_readArticle at hres
  refine lv_aload_n hx hb dX8_readArticle_0 rfl (lv_at hl 0 rfl) ?_
  refine gM_readArticles hx hb hts in8 hown hK hI (hts (.fieldLink RX8 113 "TrickHouseModel" "readArticles" "I") (by decide +kernel)) dX8_readArticle_1 ?_
  refine lv_istore_n (lv' := [(2, .int (v 9)), (0, .ref (A 0)), (1, .int a1)]) hx hb dX8_readArticle_4 rfl hl (by decide) rfl (fun ls hl => ?_)
  refine lv_aload_n hx hb dX8_readArticle_5 rfl (lv_at hl 1 rfl) ?_
  refine gM_at hx hb hts in8 hown hK hI (hts (.fieldLink RX8 80 "TrickHouseModel" "at" "I") (by decide +kernel)) dX8_readArticle_6 ?_
  refine lv_iload_n hx hb dX8_readArticle_9 rfl (lv_at hl 2 rfl) ?_
  refine lv_icmp_ge (tgt := 25) hx hb dX8_readArticle_10 (by decide) (fun c1 => ?_) (fun c1 => ?_)
  · replace hres := (if_pos c1).symm.trans hres
    refine lv_iconst (v := 0) hx hb dX8_readArticle_25 (by decide) ?_
    refine lv_istore_n (lv' := [(3, .int 0), (2, .int (v 9)), (0, .ref (A 0)), (1, .int a1)]) hx hb dX8_readArticle_26 rfl hl (by decide) rfl (fun ls hl => ?_)
    refine lv_aload_n hx hb dX8_readArticle_27 rfl (lv_at hl 2 rfl) ?_
    refine gM_readKind hx hb hts in8 hown hK hI (hts (.fieldLink RX8 37 "TrickHouseModel" "readKind" "[I") (by decide +kernel)) dX8_readArticle_28 ?_
    refine lv_iload_n hx hb dX8_readArticle_31 rfl (lv_at hl 1 rfl) ?_
    refine lv_iload_n hx hb dX8_readArticle_32 rfl (lv_at hl 0 rfl) ?_
    refine lv_bipush (v := 116) hx hb dX8_readArticle_33 (by decide) ?_
    refine lv_icmp_ne (tgt := 42) hx hb dX8_readArticle_35 (by decide) (fun c2 => ?_) (fun c2 => absurd c2 (by decide))
    refine lv_iload_n hx hb dX8_readArticle_42 rfl (lv_at hl 0 rfl) ?_
    refine lv_bipush (v := 98) hx hb dX8_readArticle_43 (by decide) ?_
    refine lv_icmp_ne (tgt := 52) hx hb dX8_readArticle_45 (by decide) (fun c3 => ?_) (fun c3 => absurd c3 (by decide))
    refine lv_iload_n hx hb dX8_readArticle_52 rfl (lv_at hl 0 rfl) ?_
    refine lv_bipush (v := 112) hx hb dX8_readArticle_53 (by decide) ?_
    refine lv_icmp_ne (tgt := 62) hx hb dX8_readArticle_55 (by decide) (fun c4 => ?_) (fun c4 => absurd c4 (by decide))
    refine lv_bipush (v := (-9)) hx hb dX8_readArticle_62 (by decide) ?_
    obtain ⟨g5, hres⟩ := gd hres
    refine th_ist hx hb hK hI 10 0 rfl rfl g5 stM_r10 dX8_readArticle_64 (fun H locs hI => ?_)
    refine lv_aload_n hx hb dX8_readArticle_65 rfl (lv_at hl 2 rfl) ?_
    refine gM_readKind hx hb hts in8 hown hK hI (hts (.fieldLink RX8 37 "TrickHouseModel" "readKind" "[I") (by decide +kernel)) dX8_readArticle_66 ?_
    refine lv_iload_n hx hb dX8_readArticle_69 rfl (lv_at hl 1 rfl) ?_
    obtain ⟨g6, hres⟩ := gd hres
    refine th_ild hx hb hK hI 10 0 rfl rfl g6 dX8_readArticle_70 ?_
    refine lv_bipush (v := (-9)) hx hb dX8_readArticle_71 (by decide) ?_
    refine lv_icmp_ne (tgt := 78) hx hb dX8_readArticle_73 (by decide) (fun c7 => ?_) (fun c7 => ?_)
    · replace hres := (if_neg c7).symm.trans hres
      refine lv_aload_n hx hb dX8_readArticle_78 rfl (lv_at hl 2 rfl) ?_
      refine lv_dup hx hb dX8_readArticle_79 rfl ?_
      refine gM_at hx hb hts in8 hown hK hI (hts (.fieldLink RX8 80 "TrickHouseModel" "at" "I") (by decide +kernel)) dX8_readArticle_80 ?_
      refine lv_iconst (v := 1) hx hb dX8_readArticle_83 (by decide) ?_
      refine lv_iadd hx hb dX8_readArticle_84 ?_
      refine pM_at hx hb hts in8 hown hK hI (hts (.fieldLink RX8 80 "TrickHouseModel" "at" "I") (by decide +kernel)) dX8_readArticle_85 (fun H locs hI => ?_)
      refine lv_aload_n hx hb dX8_readArticle_88 rfl (lv_at hl 2 rfl) ?_
      refine gM_readBulk hx hb hts in8 hown hK hI (hts (.fieldLink RX8 40 "TrickHouseModel" "readBulk" "[I") (by decide +kernel)) dX8_readArticle_89 ?_
      refine lv_iload_n hx hb dX8_readArticle_92 rfl (lv_at hl 1 rfl) ?_
      refine lv_aload_n hx hb dX8_readArticle_93 rfl (lv_at hl 2 rfl) ?_
      refine lv_iload_n hx hb dX8_readArticle_94 rfl (lv_at hl 3 rfl) ?_
      refine lv_iconst (v := 1) hx hb dX8_readArticle_95 (by decide) ?_
      refine lv_bipush (v := 9) hx hb dX8_readArticle_96 (by decide) ?_
      obtain ⟨y8, e8, hres⟩ := bd hres
      refine rw_v S (c_X8_digit l D cy A X A0 (upd v 6 ((v 6) + 1)) (va_up r 9 (upd (r 9) (v 9).toNatClampNeg (-9))) a1 (1 : Int32) (9 : Int32) y8.1 y8.2.1 y8.2.2 e8) (cwV 3 hts gX8_readArticle_X8_digit rfl rfl rfl (by decide +kernel) ⟨Nat.le_of_ble_eq_true rfl, Nat.le_of_ble_eq_true rfl⟩) hI hK hN (ci := 7) rfl (atM_0) rfl rfl hl.1 rfl (Nat.le_of_ble_eq_true rfl) dX8_readArticle_98 ⟨Nat.zero_le _, Nat.zero_le _⟩ (fun H locs hI => ?_)
      obtain ⟨g9, hres⟩ := gd hres
      refine th_ist hx hb hK hI 11 0 rfl rfl g9 stM_r11 dX8_readArticle_101 (fun H locs hI => ?_)
      refine lv_aload_n hx hb dX8_readArticle_102 rfl (lv_at hl 2 rfl) ?_
      refine gM_readBulk hx hb hts in8 hown hK hI (hts (.fieldLink RX8 40 "TrickHouseModel" "readBulk" "[I") (by decide +kernel)) dX8_readArticle_103 ?_
      refine lv_iload_n hx hb dX8_readArticle_106 rfl (lv_at hl 1 rfl) ?_
      obtain ⟨g10, hres⟩ := gd hres
      refine th_ild hx hb hK hI 11 0 rfl rfl g10 dX8_readArticle_107 ?_
      refine lv_bipush (v := (-9)) hx hb dX8_readArticle_108 (by decide) ?_
      refine lv_icmp_ne (tgt := 115) hx hb dX8_readArticle_110 (by decide) (fun c11 => ?_) (fun c11 => ?_)
      · replace hres := (if_neg c11).symm.trans hres
        refine lv_aload_n hx hb dX8_readArticle_115 rfl (lv_at hl 2 rfl) ?_
        refine gM_readGaiety hx hb hts in8 hown hK hI (hts (.fieldLink RX8 43 "TrickHouseModel" "readGaiety" "[I") (by decide +kernel)) dX8_readArticle_116 ?_
        refine lv_iload_n hx hb dX8_readArticle_119 rfl (lv_at hl 1 rfl) ?_
        refine lv_aload_n hx hb dX8_readArticle_120 rfl (lv_at hl 2 rfl) ?_
        refine lv_iload_n hx hb dX8_readArticle_121 rfl (lv_at hl 3 rfl) ?_
        refine lv_iconst (v := 0) hx hb dX8_readArticle_122 (by decide) ?_
        refine lv_bipush (v := 9) hx hb dX8_readArticle_123 (by decide) ?_
        obtain ⟨y12, e12, hres⟩ := bd hres
        refine rw_v S (c_X8_digit l D cy A X A0 y8.2.1 (va_up y8.2.2 10 (upd (y8.2.2 10) (v 9).toNatClampNeg y8.1)) a1 (0 : Int32) (9 : Int32) y12.1 y12.2.1 y12.2.2 e12) (cwV 3 hts gX8_readArticle_X8_digit rfl rfl rfl (by decide +kernel) ⟨Nat.le_of_ble_eq_true rfl, Nat.le_of_ble_eq_true rfl⟩) hI hK hN (ci := 7) rfl (atM_0) rfl rfl hl.1 rfl (Nat.le_of_ble_eq_true rfl) dX8_readArticle_125 ⟨Nat.zero_le _, Nat.zero_le _⟩ (fun H locs hI => ?_)
        obtain ⟨g13, hres⟩ := gd hres
        refine th_ist hx hb hK hI 12 0 rfl rfl g13 stM_r12 dX8_readArticle_128 (fun H locs hI => ?_)
        refine lv_aload_n hx hb dX8_readArticle_129 rfl (lv_at hl 2 rfl) ?_
        refine gM_readGaiety hx hb hts in8 hown hK hI (hts (.fieldLink RX8 43 "TrickHouseModel" "readGaiety" "[I") (by decide +kernel)) dX8_readArticle_130 ?_
        refine lv_iload_n hx hb dX8_readArticle_133 rfl (lv_at hl 1 rfl) ?_
        obtain ⟨g14, hres⟩ := gd hres
        refine th_ild hx hb hK hI 12 0 rfl rfl g14 dX8_readArticle_134 ?_
        refine lv_bipush (v := (-9)) hx hb dX8_readArticle_135 (by decide) ?_
        refine lv_icmp_ne (tgt := 142) hx hb dX8_readArticle_137 (by decide) (fun c15 => ?_) (fun c15 => ?_)
        · replace hres := (if_neg c15).symm.trans hres
          refine lv_aload_n hx hb dX8_readArticle_142 rfl (lv_at hl 2 rfl) ?_
          refine lv_iload_n hx hb dX8_readArticle_143 rfl (lv_at hl 3 rfl) ?_
          refine lv_iconst (v := 0) hx hb dX8_readArticle_144 (by decide) ?_
          refine lv_iconst (v := 4) hx hb dX8_readArticle_145 (by decide) ?_
          obtain ⟨y16, e16, hres⟩ := bd hres
          refine rw_v S (c_X8_digit l D cy A X A0 y12.2.1 (va_up y12.2.2 11 (upd (y12.2.2 11) (v 9).toNatClampNeg y12.1)) a1 (0 : Int32) (4 : Int32) y16.1 y16.2.1 y16.2.2 e16) (cwV 3 hts gX8_readArticle_X8_digit rfl rfl rfl (by decide +kernel) ⟨Nat.le_of_ble_eq_true rfl, Nat.le_of_ble_eq_true rfl⟩) hI hK hN (ci := 7) rfl (atM_0) rfl rfl hl.1 rfl (Nat.le_of_ble_eq_true rfl) dX8_readArticle_146 ⟨Nat.zero_le _, Nat.zero_le _⟩ (fun H locs hI => ?_)
          refine lv_istore (lv' := [(4, .int y16.1), (3, .int 0), (2, .int (v 9)), (0, .ref (A 0)), (1, .int a1)]) hx hb dX8_readArticle_149 hl (by decide) rfl (fun ls hl => ?_)
          refine lv_iload hx hb dX8_readArticle_151 (lv_at hl 0 rfl) ?_
          refine lv_bipush (v := (-9)) hx hb dX8_readArticle_153 (by decide) ?_
          refine lv_icmp_ne (tgt := 160) hx hb dX8_readArticle_155 (by decide) (fun c17 => ?_) (fun c17 => ?_)
          · replace hres := (if_neg c17).symm.trans hres
            refine lv_aload_n hx hb dX8_readArticle_160 rfl (lv_at hl 3 rfl) ?_
            refine lv_iload_n hx hb dX8_readArticle_161 rfl (lv_at hl 4 rfl) ?_
            refine lv_iconst (v := 0) hx hb dX8_readArticle_162 (by decide) ?_
            refine lv_bipush (v := 9) hx hb dX8_readArticle_163 (by decide) ?_
            obtain ⟨y18, e18, hres⟩ := bd hres
            refine rw_v S (c_X8_digit l D cy A X A0 y16.2.1 y16.2.2 a1 (0 : Int32) (9 : Int32) y18.1 y18.2.1 y18.2.2 e18) (cwV 3 hts gX8_readArticle_X8_digit rfl rfl rfl (by decide +kernel) ⟨Nat.le_of_ble_eq_true rfl, Nat.le_of_ble_eq_true rfl⟩) hI hK hN (ci := 7) rfl (atM_0) rfl rfl hl.1 rfl (Nat.le_of_ble_eq_true rfl) dX8_readArticle_165 ⟨Nat.zero_le _, Nat.zero_le _⟩ (fun H locs hI => ?_)
            refine lv_istore (lv' := [(5, .int y18.1), (4, .int y16.1), (3, .int 0), (2, .int (v 9)), (0, .ref (A 0)), (1, .int a1)]) hx hb dX8_readArticle_168 hl (by decide) rfl (fun ls hl => ?_)
            refine lv_aload_n hx hb dX8_readArticle_170 rfl (lv_at hl 4 rfl) ?_
            refine gM_readLonging hx hb hts in8 hown hK hI (hts (.fieldLink RX8 46 "TrickHouseModel" "readLonging" "[I") (by decide +kernel)) dX8_readArticle_171 ?_
            refine lv_iload_n hx hb dX8_readArticle_174 rfl (lv_at hl 3 rfl) ?_
            refine lv_bipush (v := 10) hx hb dX8_readArticle_175 (by decide) ?_
            refine lv_iload hx hb dX8_readArticle_177 (lv_at hl 1 rfl) ?_
            refine lv_imul hx hb dX8_readArticle_179 ?_
            refine lv_iload hx hb dX8_readArticle_180 (lv_at hl 0 rfl) ?_
            refine lv_iadd hx hb dX8_readArticle_182 ?_
            obtain ⟨g19, hres⟩ := gd hres
            refine th_ist hx hb hK hI 13 0 rfl rfl g19 stM_r13 dX8_readArticle_183 (fun H locs hI => ?_)
            refine lv_aload_n hx hb dX8_readArticle_184 rfl (lv_at hl 4 rfl) ?_
            refine lv_dup hx hb dX8_readArticle_185 rfl ?_
            refine gM_readArticles hx hb hts in8 hown hK hI (hts (.fieldLink RX8 113 "TrickHouseModel" "readArticles" "I") (by decide +kernel)) dX8_readArticle_186 ?_
            refine lv_iconst (v := 1) hx hb dX8_readArticle_189 (by decide) ?_
            refine lv_iadd hx hb dX8_readArticle_190 ?_
            refine pM_readArticles hx hb hts in8 hown hK hI (hts (.fieldLink RX8 113 "TrickHouseModel" "readArticles" "I") (by decide +kernel)) dX8_readArticle_191 (fun H locs hI => ?_)
            refine lv_iload hx hb dX8_readArticle_194 (lv_at hl 0 rfl) ?_
            refine lv_bipush (v := (-9)) hx hb dX8_readArticle_196 (by decide) ?_
            refine lv_icmp_eq (tgt := 205) hx hb dX8_readArticle_198 (by decide) (fun c20 => ?_) (fun c20 => ?_)
            · replace hres := (if_pos c20).symm.trans hres
              refine lv_iconst (v := 0) hx hb dX8_readArticle_205 (by decide) ?_
              obtain ⟨rfl, rfl, rfl⟩ := pr3 hres
              exact W.zret hx hb hr rfl (fun t ht hW => ⟨rfl, ⟨by rw [ht]; exact hI.1, va_K.moved hW.alike hK, hI.2.1, NW.warm hW hN⟩, hI.2.2.F ht⟩) hI.2.2.2.2 dX8_readArticle_206
            · replace hres := (if_neg c20).symm.trans hres
              refine lv_iconst (v := 1) hx hb dX8_readArticle_201 (by decide) ?_
              refine lv_goto (tgt := 206) hx hb dX8_readArticle_202 (by decide) ?_
              obtain ⟨rfl, rfl, rfl⟩ := pr3 hres
              exact W.zret hx hb hr rfl (fun t ht hW => ⟨rfl, ⟨by rw [ht]; exact hI.1, va_K.moved hW.alike hK, hI.2.1, NW.warm hW hN⟩, hI.2.2.F ht⟩) hI.2.2.2.2 dX8_readArticle_206
          · replace hres := (if_pos c17).symm.trans hres
            refine lv_iconst (v := 0) hx hb dX8_readArticle_158 (by decide) ?_
            obtain ⟨rfl, rfl, rfl⟩ := pr3 hres
            exact W.zret hx hb hr rfl (fun t ht hW => ⟨rfl, ⟨by rw [ht]; exact hI.1, va_K.moved hW.alike hK, hI.2.1, NW.warm hW hN⟩, hI.2.2.F ht⟩) hI.2.2.2.2 dX8_readArticle_159
        · replace hres := (if_pos c15).symm.trans hres
          refine lv_iconst (v := 0) hx hb dX8_readArticle_140 (by decide) ?_
          obtain ⟨rfl, rfl, rfl⟩ := pr3 hres
          exact W.zret hx hb hr rfl (fun t ht hW => ⟨rfl, ⟨by rw [ht]; exact hI.1, va_K.moved hW.alike hK, hI.2.1, NW.warm hW hN⟩, hI.2.2.F ht⟩) hI.2.2.2.2 dX8_readArticle_141
      · replace hres := (if_pos c11).symm.trans hres
        refine lv_iconst (v := 0) hx hb dX8_readArticle_113 (by decide) ?_
        obtain ⟨rfl, rfl, rfl⟩ := pr3 hres
        exact W.zret hx hb hr rfl (fun t ht hW => ⟨rfl, ⟨by rw [ht]; exact hI.1, va_K.moved hW.alike hK, hI.2.1, NW.warm hW hN⟩, hI.2.2.F ht⟩) hI.2.2.2.2 dX8_readArticle_114
    · replace hres := (if_pos c7).symm.trans hres
      refine lv_iconst (v := 0) hx hb dX8_readArticle_76 (by decide) ?_
      obtain ⟨rfl, rfl, rfl⟩ := pr3 hres
      exact W.zret hx hb hr rfl (fun t ht hW => ⟨rfl, ⟨by rw [ht]; exact hI.1, va_K.moved hW.alike hK, hI.2.1, NW.warm hW hN⟩, hI.2.2.F ht⟩) hI.2.2.2.2 dX8_readArticle_77
  · replace hres := (if_neg c1).symm.trans hres
    refine lv_aload_n hx hb dX8_readArticle_13 rfl (lv_at hl 1 rfl) ?_
    refine gM_cells hx hb hts in8 hown hK hI (hts (.fieldLink RX8 16 "TrickHouseModel" "cells" "[I") (by decide +kernel)) dX8_readArticle_14 ?_
    refine lv_aload_n hx hb dX8_readArticle_17 rfl (lv_at hl 1 rfl) ?_
    refine gM_at hx hb hts in8 hown hK hI (hts (.fieldLink RX8 80 "TrickHouseModel" "at" "I") (by decide +kernel)) dX8_readArticle_18 ?_
    obtain ⟨g21, hres⟩ := gd hres
    refine th_ild hx hb hK hI 3 0 rfl rfl g21 dX8_readArticle_21 ?_
    refine lv_goto (tgt := 26) hx hb dX8_readArticle_22 (by decide) ?_
    refine lv_istore_n (lv' := [(3, .int (r 2 (v 6).toNatClampNeg)), (2, .int (v 9)), (0, .ref (A 0)), (1, .int a1)]) hx hb dX8_readArticle_26 rfl hl (by decide) rfl (fun ls hl => ?_)
    refine lv_aload_n hx hb dX8_readArticle_27 rfl (lv_at hl 2 rfl) ?_
    refine gM_readKind hx hb hts in8 hown hK hI (hts (.fieldLink RX8 37 "TrickHouseModel" "readKind" "[I") (by decide +kernel)) dX8_readArticle_28 ?_
    refine lv_iload_n hx hb dX8_readArticle_31 rfl (lv_at hl 1 rfl) ?_
    refine lv_iload_n hx hb dX8_readArticle_32 rfl (lv_at hl 0 rfl) ?_
    refine lv_bipush (v := 116) hx hb dX8_readArticle_33 (by decide) ?_
    refine lv_icmp_ne (tgt := 42) hx hb dX8_readArticle_35 (by decide) (fun c22 => ?_) (fun c22 => ?_)
    · replace hres := (if_neg c22).symm.trans hres
      refine lv_iload_n hx hb dX8_readArticle_42 rfl (lv_at hl 0 rfl) ?_
      refine lv_bipush (v := 98) hx hb dX8_readArticle_43 (by decide) ?_
      refine lv_icmp_ne (tgt := 52) hx hb dX8_readArticle_45 (by decide) (fun c23 => ?_) (fun c23 => ?_)
      · replace hres := (if_neg c23).symm.trans hres
        refine lv_iload_n hx hb dX8_readArticle_52 rfl (lv_at hl 0 rfl) ?_
        refine lv_bipush (v := 112) hx hb dX8_readArticle_53 (by decide) ?_
        refine lv_icmp_ne (tgt := 62) hx hb dX8_readArticle_55 (by decide) (fun c24 => ?_) (fun c24 => ?_)
        · replace hres := (if_neg c24).symm.trans hres
          refine lv_bipush (v := (-9)) hx hb dX8_readArticle_62 (by decide) ?_
          obtain ⟨g25, hres⟩ := gd hres
          refine th_ist hx hb hK hI 10 0 rfl rfl g25 stM_r10 dX8_readArticle_64 (fun H locs hI => ?_)
          refine lv_aload_n hx hb dX8_readArticle_65 rfl (lv_at hl 2 rfl) ?_
          refine gM_readKind hx hb hts in8 hown hK hI (hts (.fieldLink RX8 37 "TrickHouseModel" "readKind" "[I") (by decide +kernel)) dX8_readArticle_66 ?_
          refine lv_iload_n hx hb dX8_readArticle_69 rfl (lv_at hl 1 rfl) ?_
          obtain ⟨g26, hres⟩ := gd hres
          refine th_ild hx hb hK hI 10 0 rfl rfl g26 dX8_readArticle_70 ?_
          refine lv_bipush (v := (-9)) hx hb dX8_readArticle_71 (by decide) ?_
          refine lv_icmp_ne (tgt := 78) hx hb dX8_readArticle_73 (by decide) (fun c27 => ?_) (fun c27 => ?_)
          · replace hres := (if_neg c27).symm.trans hres
            refine lv_aload_n hx hb dX8_readArticle_78 rfl (lv_at hl 2 rfl) ?_
            refine lv_dup hx hb dX8_readArticle_79 rfl ?_
            refine gM_at hx hb hts in8 hown hK hI (hts (.fieldLink RX8 80 "TrickHouseModel" "at" "I") (by decide +kernel)) dX8_readArticle_80 ?_
            refine lv_iconst (v := 1) hx hb dX8_readArticle_83 (by decide) ?_
            refine lv_iadd hx hb dX8_readArticle_84 ?_
            refine pM_at hx hb hts in8 hown hK hI (hts (.fieldLink RX8 80 "TrickHouseModel" "at" "I") (by decide +kernel)) dX8_readArticle_85 (fun H locs hI => ?_)
            refine lv_aload_n hx hb dX8_readArticle_88 rfl (lv_at hl 2 rfl) ?_
            refine gM_readBulk hx hb hts in8 hown hK hI (hts (.fieldLink RX8 40 "TrickHouseModel" "readBulk" "[I") (by decide +kernel)) dX8_readArticle_89 ?_
            refine lv_iload_n hx hb dX8_readArticle_92 rfl (lv_at hl 1 rfl) ?_
            refine lv_aload_n hx hb dX8_readArticle_93 rfl (lv_at hl 2 rfl) ?_
            refine lv_iload_n hx hb dX8_readArticle_94 rfl (lv_at hl 3 rfl) ?_
            refine lv_iconst (v := 1) hx hb dX8_readArticle_95 (by decide) ?_
            refine lv_bipush (v := 9) hx hb dX8_readArticle_96 (by decide) ?_
            obtain ⟨y28, e28, hres⟩ := bd hres
            refine rw_v S (c_X8_digit l D cy A X A0 (upd v 6 ((v 6) + 1)) (va_up r 9 (upd (r 9) (v 9).toNatClampNeg (-9))) a1 (1 : Int32) (9 : Int32) y28.1 y28.2.1 y28.2.2 e28) (cwV 3 hts gX8_readArticle_X8_digit rfl rfl rfl (by decide +kernel) ⟨Nat.le_of_ble_eq_true rfl, Nat.le_of_ble_eq_true rfl⟩) hI hK hN (ci := 7) rfl (atM_0) rfl rfl hl.1 rfl (Nat.le_of_ble_eq_true rfl) dX8_readArticle_98 ⟨Nat.zero_le _, Nat.zero_le _⟩ (fun H locs hI => ?_)
            obtain ⟨g29, hres⟩ := gd hres
            refine th_ist hx hb hK hI 11 0 rfl rfl g29 stM_r11 dX8_readArticle_101 (fun H locs hI => ?_)
            refine lv_aload_n hx hb dX8_readArticle_102 rfl (lv_at hl 2 rfl) ?_
            refine gM_readBulk hx hb hts in8 hown hK hI (hts (.fieldLink RX8 40 "TrickHouseModel" "readBulk" "[I") (by decide +kernel)) dX8_readArticle_103 ?_
            refine lv_iload_n hx hb dX8_readArticle_106 rfl (lv_at hl 1 rfl) ?_
            obtain ⟨g30, hres⟩ := gd hres
            refine th_ild hx hb hK hI 11 0 rfl rfl g30 dX8_readArticle_107 ?_
            refine lv_bipush (v := (-9)) hx hb dX8_readArticle_108 (by decide) ?_
            refine lv_icmp_ne (tgt := 115) hx hb dX8_readArticle_110 (by decide) (fun c31 => ?_) (fun c31 => ?_)
            · replace hres := (if_neg c31).symm.trans hres
              refine lv_aload_n hx hb dX8_readArticle_115 rfl (lv_at hl 2 rfl) ?_
              refine gM_readGaiety hx hb hts in8 hown hK hI (hts (.fieldLink RX8 43 "TrickHouseModel" "readGaiety" "[I") (by decide +kernel)) dX8_readArticle_116 ?_
              refine lv_iload_n hx hb dX8_readArticle_119 rfl (lv_at hl 1 rfl) ?_
              refine lv_aload_n hx hb dX8_readArticle_120 rfl (lv_at hl 2 rfl) ?_
              refine lv_iload_n hx hb dX8_readArticle_121 rfl (lv_at hl 3 rfl) ?_
              refine lv_iconst (v := 0) hx hb dX8_readArticle_122 (by decide) ?_
              refine lv_bipush (v := 9) hx hb dX8_readArticle_123 (by decide) ?_
              obtain ⟨y32, e32, hres⟩ := bd hres
              refine rw_v S (c_X8_digit l D cy A X A0 y28.2.1 (va_up y28.2.2 10 (upd (y28.2.2 10) (v 9).toNatClampNeg y28.1)) a1 (0 : Int32) (9 : Int32) y32.1 y32.2.1 y32.2.2 e32) (cwV 3 hts gX8_readArticle_X8_digit rfl rfl rfl (by decide +kernel) ⟨Nat.le_of_ble_eq_true rfl, Nat.le_of_ble_eq_true rfl⟩) hI hK hN (ci := 7) rfl (atM_0) rfl rfl hl.1 rfl (Nat.le_of_ble_eq_true rfl) dX8_readArticle_125 ⟨Nat.zero_le _, Nat.zero_le _⟩ (fun H locs hI => ?_)
              obtain ⟨g33, hres⟩ := gd hres
              refine th_ist hx hb hK hI 12 0 rfl rfl g33 stM_r12 dX8_readArticle_128 (fun H locs hI => ?_)
              refine lv_aload_n hx hb dX8_readArticle_129 rfl (lv_at hl 2 rfl) ?_
              refine gM_readGaiety hx hb hts in8 hown hK hI (hts (.fieldLink RX8 43 "TrickHouseModel" "readGaiety" "[I") (by decide +kernel)) dX8_readArticle_130 ?_
              refine lv_iload_n hx hb dX8_readArticle_133 rfl (lv_at hl 1 rfl) ?_
              obtain ⟨g34, hres⟩ := gd hres
              refine th_ild hx hb hK hI 12 0 rfl rfl g34 dX8_readArticle_134 ?_
              refine lv_bipush (v := (-9)) hx hb dX8_readArticle_135 (by decide) ?_
              refine lv_icmp_ne (tgt := 142) hx hb dX8_readArticle_137 (by decide) (fun c35 => ?_) (fun c35 => ?_)
              · replace hres := (if_neg c35).symm.trans hres
                refine lv_aload_n hx hb dX8_readArticle_142 rfl (lv_at hl 2 rfl) ?_
                refine lv_iload_n hx hb dX8_readArticle_143 rfl (lv_at hl 3 rfl) ?_
                refine lv_iconst (v := 0) hx hb dX8_readArticle_144 (by decide) ?_
                refine lv_iconst (v := 4) hx hb dX8_readArticle_145 (by decide) ?_
                obtain ⟨y36, e36, hres⟩ := bd hres
                refine rw_v S (c_X8_digit l D cy A X A0 y32.2.1 (va_up y32.2.2 11 (upd (y32.2.2 11) (v 9).toNatClampNeg y32.1)) a1 (0 : Int32) (4 : Int32) y36.1 y36.2.1 y36.2.2 e36) (cwV 3 hts gX8_readArticle_X8_digit rfl rfl rfl (by decide +kernel) ⟨Nat.le_of_ble_eq_true rfl, Nat.le_of_ble_eq_true rfl⟩) hI hK hN (ci := 7) rfl (atM_0) rfl rfl hl.1 rfl (Nat.le_of_ble_eq_true rfl) dX8_readArticle_146 ⟨Nat.zero_le _, Nat.zero_le _⟩ (fun H locs hI => ?_)
                refine lv_istore (lv' := [(4, .int y36.1), (3, .int (r 2 (v 6).toNatClampNeg)), (2, .int (v 9)), (0, .ref (A 0)), (1, .int a1)]) hx hb dX8_readArticle_149 hl (by decide) rfl (fun ls hl => ?_)
                refine lv_iload hx hb dX8_readArticle_151 (lv_at hl 0 rfl) ?_
                refine lv_bipush (v := (-9)) hx hb dX8_readArticle_153 (by decide) ?_
                refine lv_icmp_ne (tgt := 160) hx hb dX8_readArticle_155 (by decide) (fun c37 => ?_) (fun c37 => ?_)
                · replace hres := (if_neg c37).symm.trans hres
                  refine lv_aload_n hx hb dX8_readArticle_160 rfl (lv_at hl 3 rfl) ?_
                  refine lv_iload_n hx hb dX8_readArticle_161 rfl (lv_at hl 4 rfl) ?_
                  refine lv_iconst (v := 0) hx hb dX8_readArticle_162 (by decide) ?_
                  refine lv_bipush (v := 9) hx hb dX8_readArticle_163 (by decide) ?_
                  obtain ⟨y38, e38, hres⟩ := bd hres
                  refine rw_v S (c_X8_digit l D cy A X A0 y36.2.1 y36.2.2 a1 (0 : Int32) (9 : Int32) y38.1 y38.2.1 y38.2.2 e38) (cwV 3 hts gX8_readArticle_X8_digit rfl rfl rfl (by decide +kernel) ⟨Nat.le_of_ble_eq_true rfl, Nat.le_of_ble_eq_true rfl⟩) hI hK hN (ci := 7) rfl (atM_0) rfl rfl hl.1 rfl (Nat.le_of_ble_eq_true rfl) dX8_readArticle_165 ⟨Nat.zero_le _, Nat.zero_le _⟩ (fun H locs hI => ?_)
                  refine lv_istore (lv' := [(5, .int y38.1), (4, .int y36.1), (3, .int (r 2 (v 6).toNatClampNeg)), (2, .int (v 9)), (0, .ref (A 0)), (1, .int a1)]) hx hb dX8_readArticle_168 hl (by decide) rfl (fun ls hl => ?_)
                  refine lv_aload_n hx hb dX8_readArticle_170 rfl (lv_at hl 4 rfl) ?_
                  refine gM_readLonging hx hb hts in8 hown hK hI (hts (.fieldLink RX8 46 "TrickHouseModel" "readLonging" "[I") (by decide +kernel)) dX8_readArticle_171 ?_
                  refine lv_iload_n hx hb dX8_readArticle_174 rfl (lv_at hl 3 rfl) ?_
                  refine lv_bipush (v := 10) hx hb dX8_readArticle_175 (by decide) ?_
                  refine lv_iload hx hb dX8_readArticle_177 (lv_at hl 1 rfl) ?_
                  refine lv_imul hx hb dX8_readArticle_179 ?_
                  refine lv_iload hx hb dX8_readArticle_180 (lv_at hl 0 rfl) ?_
                  refine lv_iadd hx hb dX8_readArticle_182 ?_
                  obtain ⟨g39, hres⟩ := gd hres
                  refine th_ist hx hb hK hI 13 0 rfl rfl g39 stM_r13 dX8_readArticle_183 (fun H locs hI => ?_)
                  refine lv_aload_n hx hb dX8_readArticle_184 rfl (lv_at hl 4 rfl) ?_
                  refine lv_dup hx hb dX8_readArticle_185 rfl ?_
                  refine gM_readArticles hx hb hts in8 hown hK hI (hts (.fieldLink RX8 113 "TrickHouseModel" "readArticles" "I") (by decide +kernel)) dX8_readArticle_186 ?_
                  refine lv_iconst (v := 1) hx hb dX8_readArticle_189 (by decide) ?_
                  refine lv_iadd hx hb dX8_readArticle_190 ?_
                  refine pM_readArticles hx hb hts in8 hown hK hI (hts (.fieldLink RX8 113 "TrickHouseModel" "readArticles" "I") (by decide +kernel)) dX8_readArticle_191 (fun H locs hI => ?_)
                  refine lv_iload hx hb dX8_readArticle_194 (lv_at hl 0 rfl) ?_
                  refine lv_bipush (v := (-9)) hx hb dX8_readArticle_196 (by decide) ?_
                  refine lv_icmp_eq (tgt := 205) hx hb dX8_readArticle_198 (by decide) (fun c40 => ?_) (fun c40 => ?_)
                  · replace hres := (if_pos c40).symm.trans hres
                    refine lv_iconst (v := 0) hx hb dX8_readArticle_205 (by decide) ?_
                    obtain ⟨rfl, rfl, rfl⟩ := pr3 hres
                    exact W.zret hx hb hr rfl (fun t ht hW => ⟨rfl, ⟨by rw [ht]; exact hI.1, va_K.moved hW.alike hK, hI.2.1, NW.warm hW hN⟩, hI.2.2.F ht⟩) hI.2.2.2.2 dX8_readArticle_206
                  · replace hres := (if_neg c40).symm.trans hres
                    refine lv_iconst (v := 1) hx hb dX8_readArticle_201 (by decide) ?_
                    refine lv_goto (tgt := 206) hx hb dX8_readArticle_202 (by decide) ?_
                    obtain ⟨rfl, rfl, rfl⟩ := pr3 hres
                    exact W.zret hx hb hr rfl (fun t ht hW => ⟨rfl, ⟨by rw [ht]; exact hI.1, va_K.moved hW.alike hK, hI.2.1, NW.warm hW hN⟩, hI.2.2.F ht⟩) hI.2.2.2.2 dX8_readArticle_206
                · replace hres := (if_pos c37).symm.trans hres
                  refine lv_iconst (v := 0) hx hb dX8_readArticle_158 (by decide) ?_
                  obtain ⟨rfl, rfl, rfl⟩ := pr3 hres
                  exact W.zret hx hb hr rfl (fun t ht hW => ⟨rfl, ⟨by rw [ht]; exact hI.1, va_K.moved hW.alike hK, hI.2.1, NW.warm hW hN⟩, hI.2.2.F ht⟩) hI.2.2.2.2 dX8_readArticle_159
              · replace hres := (if_pos c35).symm.trans hres
                refine lv_iconst (v := 0) hx hb dX8_readArticle_140 (by decide) ?_
                obtain ⟨rfl, rfl, rfl⟩ := pr3 hres
                exact W.zret hx hb hr rfl (fun t ht hW => ⟨rfl, ⟨by rw [ht]; exact hI.1, va_K.moved hW.alike hK, hI.2.1, NW.warm hW hN⟩, hI.2.2.F ht⟩) hI.2.2.2.2 dX8_readArticle_141
            · replace hres := (if_pos c31).symm.trans hres
              refine lv_iconst (v := 0) hx hb dX8_readArticle_113 (by decide) ?_
              obtain ⟨rfl, rfl, rfl⟩ := pr3 hres
              exact W.zret hx hb hr rfl (fun t ht hW => ⟨rfl, ⟨by rw [ht]; exact hI.1, va_K.moved hW.alike hK, hI.2.1, NW.warm hW hN⟩, hI.2.2.F ht⟩) hI.2.2.2.2 dX8_readArticle_114
          · replace hres := (if_pos c27).symm.trans hres
            refine lv_iconst (v := 0) hx hb dX8_readArticle_76 (by decide) ?_
            obtain ⟨rfl, rfl, rfl⟩ := pr3 hres
            exact W.zret hx hb hr rfl (fun t ht hW => ⟨rfl, ⟨by rw [ht]; exact hI.1, va_K.moved hW.alike hK, hI.2.1, NW.warm hW hN⟩, hI.2.2.F ht⟩) hI.2.2.2.2 dX8_readArticle_77
        · replace hres := (if_pos c24).symm.trans hres
          refine lv_iconst (v := 2) hx hb dX8_readArticle_58 (by decide) ?_
          refine lv_goto (tgt := 64) hx hb dX8_readArticle_59 (by decide) ?_
          obtain ⟨g41, hres⟩ := gd hres
          refine th_ist hx hb hK hI 10 0 rfl rfl g41 stM_r10 dX8_readArticle_64 (fun H locs hI => ?_)
          refine lv_aload_n hx hb dX8_readArticle_65 rfl (lv_at hl 2 rfl) ?_
          refine gM_readKind hx hb hts in8 hown hK hI (hts (.fieldLink RX8 37 "TrickHouseModel" "readKind" "[I") (by decide +kernel)) dX8_readArticle_66 ?_
          refine lv_iload_n hx hb dX8_readArticle_69 rfl (lv_at hl 1 rfl) ?_
          obtain ⟨g42, hres⟩ := gd hres
          refine th_ild hx hb hK hI 10 0 rfl rfl g42 dX8_readArticle_70 ?_
          refine lv_bipush (v := (-9)) hx hb dX8_readArticle_71 (by decide) ?_
          refine lv_icmp_ne (tgt := 78) hx hb dX8_readArticle_73 (by decide) (fun c43 => ?_) (fun c43 => ?_)
          · replace hres := (if_neg c43).symm.trans hres
            refine lv_aload_n hx hb dX8_readArticle_78 rfl (lv_at hl 2 rfl) ?_
            refine lv_dup hx hb dX8_readArticle_79 rfl ?_
            refine gM_at hx hb hts in8 hown hK hI (hts (.fieldLink RX8 80 "TrickHouseModel" "at" "I") (by decide +kernel)) dX8_readArticle_80 ?_
            refine lv_iconst (v := 1) hx hb dX8_readArticle_83 (by decide) ?_
            refine lv_iadd hx hb dX8_readArticle_84 ?_
            refine pM_at hx hb hts in8 hown hK hI (hts (.fieldLink RX8 80 "TrickHouseModel" "at" "I") (by decide +kernel)) dX8_readArticle_85 (fun H locs hI => ?_)
            refine lv_aload_n hx hb dX8_readArticle_88 rfl (lv_at hl 2 rfl) ?_
            refine gM_readBulk hx hb hts in8 hown hK hI (hts (.fieldLink RX8 40 "TrickHouseModel" "readBulk" "[I") (by decide +kernel)) dX8_readArticle_89 ?_
            refine lv_iload_n hx hb dX8_readArticle_92 rfl (lv_at hl 1 rfl) ?_
            refine lv_aload_n hx hb dX8_readArticle_93 rfl (lv_at hl 2 rfl) ?_
            refine lv_iload_n hx hb dX8_readArticle_94 rfl (lv_at hl 3 rfl) ?_
            refine lv_iconst (v := 1) hx hb dX8_readArticle_95 (by decide) ?_
            refine lv_bipush (v := 9) hx hb dX8_readArticle_96 (by decide) ?_
            obtain ⟨y44, e44, hres⟩ := bd hres
            refine rw_v S (c_X8_digit l D cy A X A0 (upd v 6 ((v 6) + 1)) (va_up r 9 (upd (r 9) (v 9).toNatClampNeg 2)) a1 (1 : Int32) (9 : Int32) y44.1 y44.2.1 y44.2.2 e44) (cwV 3 hts gX8_readArticle_X8_digit rfl rfl rfl (by decide +kernel) ⟨Nat.le_of_ble_eq_true rfl, Nat.le_of_ble_eq_true rfl⟩) hI hK hN (ci := 7) rfl (atM_0) rfl rfl hl.1 rfl (Nat.le_of_ble_eq_true rfl) dX8_readArticle_98 ⟨Nat.zero_le _, Nat.zero_le _⟩ (fun H locs hI => ?_)
            obtain ⟨g45, hres⟩ := gd hres
            refine th_ist hx hb hK hI 11 0 rfl rfl g45 stM_r11 dX8_readArticle_101 (fun H locs hI => ?_)
            refine lv_aload_n hx hb dX8_readArticle_102 rfl (lv_at hl 2 rfl) ?_
            refine gM_readBulk hx hb hts in8 hown hK hI (hts (.fieldLink RX8 40 "TrickHouseModel" "readBulk" "[I") (by decide +kernel)) dX8_readArticle_103 ?_
            refine lv_iload_n hx hb dX8_readArticle_106 rfl (lv_at hl 1 rfl) ?_
            obtain ⟨g46, hres⟩ := gd hres
            refine th_ild hx hb hK hI 11 0 rfl rfl g46 dX8_readArticle_107 ?_
            refine lv_bipush (v := (-9)) hx hb dX8_readArticle_108 (by decide) ?_
            refine lv_icmp_ne (tgt := 115) hx hb dX8_readArticle_110 (by decide) (fun c47 => ?_) (fun c47 => ?_)
            · replace hres := (if_neg c47).symm.trans hres
              refine lv_aload_n hx hb dX8_readArticle_115 rfl (lv_at hl 2 rfl) ?_
              refine gM_readGaiety hx hb hts in8 hown hK hI (hts (.fieldLink RX8 43 "TrickHouseModel" "readGaiety" "[I") (by decide +kernel)) dX8_readArticle_116 ?_
              refine lv_iload_n hx hb dX8_readArticle_119 rfl (lv_at hl 1 rfl) ?_
              refine lv_aload_n hx hb dX8_readArticle_120 rfl (lv_at hl 2 rfl) ?_
              refine lv_iload_n hx hb dX8_readArticle_121 rfl (lv_at hl 3 rfl) ?_
              refine lv_iconst (v := 0) hx hb dX8_readArticle_122 (by decide) ?_
              refine lv_bipush (v := 9) hx hb dX8_readArticle_123 (by decide) ?_
              obtain ⟨y48, e48, hres⟩ := bd hres
              refine rw_v S (c_X8_digit l D cy A X A0 y44.2.1 (va_up y44.2.2 10 (upd (y44.2.2 10) (v 9).toNatClampNeg y44.1)) a1 (0 : Int32) (9 : Int32) y48.1 y48.2.1 y48.2.2 e48) (cwV 3 hts gX8_readArticle_X8_digit rfl rfl rfl (by decide +kernel) ⟨Nat.le_of_ble_eq_true rfl, Nat.le_of_ble_eq_true rfl⟩) hI hK hN (ci := 7) rfl (atM_0) rfl rfl hl.1 rfl (Nat.le_of_ble_eq_true rfl) dX8_readArticle_125 ⟨Nat.zero_le _, Nat.zero_le _⟩ (fun H locs hI => ?_)
              obtain ⟨g49, hres⟩ := gd hres
              refine th_ist hx hb hK hI 12 0 rfl rfl g49 stM_r12 dX8_readArticle_128 (fun H locs hI => ?_)
              refine lv_aload_n hx hb dX8_readArticle_129 rfl (lv_at hl 2 rfl) ?_
              refine gM_readGaiety hx hb hts in8 hown hK hI (hts (.fieldLink RX8 43 "TrickHouseModel" "readGaiety" "[I") (by decide +kernel)) dX8_readArticle_130 ?_
              refine lv_iload_n hx hb dX8_readArticle_133 rfl (lv_at hl 1 rfl) ?_
              obtain ⟨g50, hres⟩ := gd hres
              refine th_ild hx hb hK hI 12 0 rfl rfl g50 dX8_readArticle_134 ?_
              refine lv_bipush (v := (-9)) hx hb dX8_readArticle_135 (by decide) ?_
              refine lv_icmp_ne (tgt := 142) hx hb dX8_readArticle_137 (by decide) (fun c51 => ?_) (fun c51 => ?_)
              · replace hres := (if_neg c51).symm.trans hres
                refine lv_aload_n hx hb dX8_readArticle_142 rfl (lv_at hl 2 rfl) ?_
                refine lv_iload_n hx hb dX8_readArticle_143 rfl (lv_at hl 3 rfl) ?_
                refine lv_iconst (v := 0) hx hb dX8_readArticle_144 (by decide) ?_
                refine lv_iconst (v := 4) hx hb dX8_readArticle_145 (by decide) ?_
                obtain ⟨y52, e52, hres⟩ := bd hres
                refine rw_v S (c_X8_digit l D cy A X A0 y48.2.1 (va_up y48.2.2 11 (upd (y48.2.2 11) (v 9).toNatClampNeg y48.1)) a1 (0 : Int32) (4 : Int32) y52.1 y52.2.1 y52.2.2 e52) (cwV 3 hts gX8_readArticle_X8_digit rfl rfl rfl (by decide +kernel) ⟨Nat.le_of_ble_eq_true rfl, Nat.le_of_ble_eq_true rfl⟩) hI hK hN (ci := 7) rfl (atM_0) rfl rfl hl.1 rfl (Nat.le_of_ble_eq_true rfl) dX8_readArticle_146 ⟨Nat.zero_le _, Nat.zero_le _⟩ (fun H locs hI => ?_)
                refine lv_istore (lv' := [(4, .int y52.1), (3, .int (r 2 (v 6).toNatClampNeg)), (2, .int (v 9)), (0, .ref (A 0)), (1, .int a1)]) hx hb dX8_readArticle_149 hl (by decide) rfl (fun ls hl => ?_)
                refine lv_iload hx hb dX8_readArticle_151 (lv_at hl 0 rfl) ?_
                refine lv_bipush (v := (-9)) hx hb dX8_readArticle_153 (by decide) ?_
                refine lv_icmp_ne (tgt := 160) hx hb dX8_readArticle_155 (by decide) (fun c53 => ?_) (fun c53 => ?_)
                · replace hres := (if_neg c53).symm.trans hres
                  refine lv_aload_n hx hb dX8_readArticle_160 rfl (lv_at hl 3 rfl) ?_
                  refine lv_iload_n hx hb dX8_readArticle_161 rfl (lv_at hl 4 rfl) ?_
                  refine lv_iconst (v := 0) hx hb dX8_readArticle_162 (by decide) ?_
                  refine lv_bipush (v := 9) hx hb dX8_readArticle_163 (by decide) ?_
                  obtain ⟨y54, e54, hres⟩ := bd hres
                  refine rw_v S (c_X8_digit l D cy A X A0 y52.2.1 y52.2.2 a1 (0 : Int32) (9 : Int32) y54.1 y54.2.1 y54.2.2 e54) (cwV 3 hts gX8_readArticle_X8_digit rfl rfl rfl (by decide +kernel) ⟨Nat.le_of_ble_eq_true rfl, Nat.le_of_ble_eq_true rfl⟩) hI hK hN (ci := 7) rfl (atM_0) rfl rfl hl.1 rfl (Nat.le_of_ble_eq_true rfl) dX8_readArticle_165 ⟨Nat.zero_le _, Nat.zero_le _⟩ (fun H locs hI => ?_)
                  refine lv_istore (lv' := [(5, .int y54.1), (4, .int y52.1), (3, .int (r 2 (v 6).toNatClampNeg)), (2, .int (v 9)), (0, .ref (A 0)), (1, .int a1)]) hx hb dX8_readArticle_168 hl (by decide) rfl (fun ls hl => ?_)
                  refine lv_aload_n hx hb dX8_readArticle_170 rfl (lv_at hl 4 rfl) ?_
                  refine gM_readLonging hx hb hts in8 hown hK hI (hts (.fieldLink RX8 46 "TrickHouseModel" "readLonging" "[I") (by decide +kernel)) dX8_readArticle_171 ?_
                  refine lv_iload_n hx hb dX8_readArticle_174 rfl (lv_at hl 3 rfl) ?_
                  refine lv_bipush (v := 10) hx hb dX8_readArticle_175 (by decide) ?_
                  refine lv_iload hx hb dX8_readArticle_177 (lv_at hl 1 rfl) ?_
                  refine lv_imul hx hb dX8_readArticle_179 ?_
                  refine lv_iload hx hb dX8_readArticle_180 (lv_at hl 0 rfl) ?_
                  refine lv_iadd hx hb dX8_readArticle_182 ?_
                  obtain ⟨g55, hres⟩ := gd hres
                  refine th_ist hx hb hK hI 13 0 rfl rfl g55 stM_r13 dX8_readArticle_183 (fun H locs hI => ?_)
                  refine lv_aload_n hx hb dX8_readArticle_184 rfl (lv_at hl 4 rfl) ?_
                  refine lv_dup hx hb dX8_readArticle_185 rfl ?_
                  refine gM_readArticles hx hb hts in8 hown hK hI (hts (.fieldLink RX8 113 "TrickHouseModel" "readArticles" "I") (by decide +kernel)) dX8_readArticle_186 ?_
                  refine lv_iconst (v := 1) hx hb dX8_readArticle_189 (by decide) ?_
                  refine lv_iadd hx hb dX8_readArticle_190 ?_
                  refine pM_readArticles hx hb hts in8 hown hK hI (hts (.fieldLink RX8 113 "TrickHouseModel" "readArticles" "I") (by decide +kernel)) dX8_readArticle_191 (fun H locs hI => ?_)
                  refine lv_iload hx hb dX8_readArticle_194 (lv_at hl 0 rfl) ?_
                  refine lv_bipush (v := (-9)) hx hb dX8_readArticle_196 (by decide) ?_
                  refine lv_icmp_eq (tgt := 205) hx hb dX8_readArticle_198 (by decide) (fun c56 => ?_) (fun c56 => ?_)
                  · replace hres := (if_pos c56).symm.trans hres
                    refine lv_iconst (v := 0) hx hb dX8_readArticle_205 (by decide) ?_
                    obtain ⟨rfl, rfl, rfl⟩ := pr3 hres
                    exact W.zret hx hb hr rfl (fun t ht hW => ⟨rfl, ⟨by rw [ht]; exact hI.1, va_K.moved hW.alike hK, hI.2.1, NW.warm hW hN⟩, hI.2.2.F ht⟩) hI.2.2.2.2 dX8_readArticle_206
                  · replace hres := (if_neg c56).symm.trans hres
                    refine lv_iconst (v := 1) hx hb dX8_readArticle_201 (by decide) ?_
                    refine lv_goto (tgt := 206) hx hb dX8_readArticle_202 (by decide) ?_
                    obtain ⟨rfl, rfl, rfl⟩ := pr3 hres
                    exact W.zret hx hb hr rfl (fun t ht hW => ⟨rfl, ⟨by rw [ht]; exact hI.1, va_K.moved hW.alike hK, hI.2.1, NW.warm hW hN⟩, hI.2.2.F ht⟩) hI.2.2.2.2 dX8_readArticle_206
                · replace hres := (if_pos c53).symm.trans hres
                  refine lv_iconst (v := 0) hx hb dX8_readArticle_158 (by decide) ?_
                  obtain ⟨rfl, rfl, rfl⟩ := pr3 hres
                  exact W.zret hx hb hr rfl (fun t ht hW => ⟨rfl, ⟨by rw [ht]; exact hI.1, va_K.moved hW.alike hK, hI.2.1, NW.warm hW hN⟩, hI.2.2.F ht⟩) hI.2.2.2.2 dX8_readArticle_159
              · replace hres := (if_pos c51).symm.trans hres
                refine lv_iconst (v := 0) hx hb dX8_readArticle_140 (by decide) ?_
                obtain ⟨rfl, rfl, rfl⟩ := pr3 hres
                exact W.zret hx hb hr rfl (fun t ht hW => ⟨rfl, ⟨by rw [ht]; exact hI.1, va_K.moved hW.alike hK, hI.2.1, NW.warm hW hN⟩, hI.2.2.F ht⟩) hI.2.2.2.2 dX8_readArticle_141
            · replace hres := (if_pos c47).symm.trans hres
              refine lv_iconst (v := 0) hx hb dX8_readArticle_113 (by decide) ?_
              obtain ⟨rfl, rfl, rfl⟩ := pr3 hres
              exact W.zret hx hb hr rfl (fun t ht hW => ⟨rfl, ⟨by rw [ht]; exact hI.1, va_K.moved hW.alike hK, hI.2.1, NW.warm hW hN⟩, hI.2.2.F ht⟩) hI.2.2.2.2 dX8_readArticle_114
          · replace hres := (if_pos c43).symm.trans hres
            refine lv_iconst (v := 0) hx hb dX8_readArticle_76 (by decide) ?_
            obtain ⟨rfl, rfl, rfl⟩ := pr3 hres
            exact W.zret hx hb hr rfl (fun t ht hW => ⟨rfl, ⟨by rw [ht]; exact hI.1, va_K.moved hW.alike hK, hI.2.1, NW.warm hW hN⟩, hI.2.2.F ht⟩) hI.2.2.2.2 dX8_readArticle_77
      · replace hres := (if_pos c23).symm.trans hres
        refine lv_iconst (v := 1) hx hb dX8_readArticle_48 (by decide) ?_
        refine lv_goto (tgt := 64) hx hb dX8_readArticle_49 (by decide) ?_
        obtain ⟨g57, hres⟩ := gd hres
        refine th_ist hx hb hK hI 10 0 rfl rfl g57 stM_r10 dX8_readArticle_64 (fun H locs hI => ?_)
        refine lv_aload_n hx hb dX8_readArticle_65 rfl (lv_at hl 2 rfl) ?_
        refine gM_readKind hx hb hts in8 hown hK hI (hts (.fieldLink RX8 37 "TrickHouseModel" "readKind" "[I") (by decide +kernel)) dX8_readArticle_66 ?_
        refine lv_iload_n hx hb dX8_readArticle_69 rfl (lv_at hl 1 rfl) ?_
        obtain ⟨g58, hres⟩ := gd hres
        refine th_ild hx hb hK hI 10 0 rfl rfl g58 dX8_readArticle_70 ?_
        refine lv_bipush (v := (-9)) hx hb dX8_readArticle_71 (by decide) ?_
        refine lv_icmp_ne (tgt := 78) hx hb dX8_readArticle_73 (by decide) (fun c59 => ?_) (fun c59 => ?_)
        · replace hres := (if_neg c59).symm.trans hres
          refine lv_aload_n hx hb dX8_readArticle_78 rfl (lv_at hl 2 rfl) ?_
          refine lv_dup hx hb dX8_readArticle_79 rfl ?_
          refine gM_at hx hb hts in8 hown hK hI (hts (.fieldLink RX8 80 "TrickHouseModel" "at" "I") (by decide +kernel)) dX8_readArticle_80 ?_
          refine lv_iconst (v := 1) hx hb dX8_readArticle_83 (by decide) ?_
          refine lv_iadd hx hb dX8_readArticle_84 ?_
          refine pM_at hx hb hts in8 hown hK hI (hts (.fieldLink RX8 80 "TrickHouseModel" "at" "I") (by decide +kernel)) dX8_readArticle_85 (fun H locs hI => ?_)
          refine lv_aload_n hx hb dX8_readArticle_88 rfl (lv_at hl 2 rfl) ?_
          refine gM_readBulk hx hb hts in8 hown hK hI (hts (.fieldLink RX8 40 "TrickHouseModel" "readBulk" "[I") (by decide +kernel)) dX8_readArticle_89 ?_
          refine lv_iload_n hx hb dX8_readArticle_92 rfl (lv_at hl 1 rfl) ?_
          refine lv_aload_n hx hb dX8_readArticle_93 rfl (lv_at hl 2 rfl) ?_
          refine lv_iload_n hx hb dX8_readArticle_94 rfl (lv_at hl 3 rfl) ?_
          refine lv_iconst (v := 1) hx hb dX8_readArticle_95 (by decide) ?_
          refine lv_bipush (v := 9) hx hb dX8_readArticle_96 (by decide) ?_
          obtain ⟨y60, e60, hres⟩ := bd hres
          refine rw_v S (c_X8_digit l D cy A X A0 (upd v 6 ((v 6) + 1)) (va_up r 9 (upd (r 9) (v 9).toNatClampNeg 1)) a1 (1 : Int32) (9 : Int32) y60.1 y60.2.1 y60.2.2 e60) (cwV 3 hts gX8_readArticle_X8_digit rfl rfl rfl (by decide +kernel) ⟨Nat.le_of_ble_eq_true rfl, Nat.le_of_ble_eq_true rfl⟩) hI hK hN (ci := 7) rfl (atM_0) rfl rfl hl.1 rfl (Nat.le_of_ble_eq_true rfl) dX8_readArticle_98 ⟨Nat.zero_le _, Nat.zero_le _⟩ (fun H locs hI => ?_)
          obtain ⟨g61, hres⟩ := gd hres
          refine th_ist hx hb hK hI 11 0 rfl rfl g61 stM_r11 dX8_readArticle_101 (fun H locs hI => ?_)
          refine lv_aload_n hx hb dX8_readArticle_102 rfl (lv_at hl 2 rfl) ?_
          refine gM_readBulk hx hb hts in8 hown hK hI (hts (.fieldLink RX8 40 "TrickHouseModel" "readBulk" "[I") (by decide +kernel)) dX8_readArticle_103 ?_
          refine lv_iload_n hx hb dX8_readArticle_106 rfl (lv_at hl 1 rfl) ?_
          obtain ⟨g62, hres⟩ := gd hres
          refine th_ild hx hb hK hI 11 0 rfl rfl g62 dX8_readArticle_107 ?_
          refine lv_bipush (v := (-9)) hx hb dX8_readArticle_108 (by decide) ?_
          refine lv_icmp_ne (tgt := 115) hx hb dX8_readArticle_110 (by decide) (fun c63 => ?_) (fun c63 => ?_)
          · replace hres := (if_neg c63).symm.trans hres
            refine lv_aload_n hx hb dX8_readArticle_115 rfl (lv_at hl 2 rfl) ?_
            refine gM_readGaiety hx hb hts in8 hown hK hI (hts (.fieldLink RX8 43 "TrickHouseModel" "readGaiety" "[I") (by decide +kernel)) dX8_readArticle_116 ?_
            refine lv_iload_n hx hb dX8_readArticle_119 rfl (lv_at hl 1 rfl) ?_
            refine lv_aload_n hx hb dX8_readArticle_120 rfl (lv_at hl 2 rfl) ?_
            refine lv_iload_n hx hb dX8_readArticle_121 rfl (lv_at hl 3 rfl) ?_
            refine lv_iconst (v := 0) hx hb dX8_readArticle_122 (by decide) ?_
            refine lv_bipush (v := 9) hx hb dX8_readArticle_123 (by decide) ?_
            obtain ⟨y64, e64, hres⟩ := bd hres
            refine rw_v S (c_X8_digit l D cy A X A0 y60.2.1 (va_up y60.2.2 10 (upd (y60.2.2 10) (v 9).toNatClampNeg y60.1)) a1 (0 : Int32) (9 : Int32) y64.1 y64.2.1 y64.2.2 e64) (cwV 3 hts gX8_readArticle_X8_digit rfl rfl rfl (by decide +kernel) ⟨Nat.le_of_ble_eq_true rfl, Nat.le_of_ble_eq_true rfl⟩) hI hK hN (ci := 7) rfl (atM_0) rfl rfl hl.1 rfl (Nat.le_of_ble_eq_true rfl) dX8_readArticle_125 ⟨Nat.zero_le _, Nat.zero_le _⟩ (fun H locs hI => ?_)
            obtain ⟨g65, hres⟩ := gd hres
            refine th_ist hx hb hK hI 12 0 rfl rfl g65 stM_r12 dX8_readArticle_128 (fun H locs hI => ?_)
            refine lv_aload_n hx hb dX8_readArticle_129 rfl (lv_at hl 2 rfl) ?_
            refine gM_readGaiety hx hb hts in8 hown hK hI (hts (.fieldLink RX8 43 "TrickHouseModel" "readGaiety" "[I") (by decide +kernel)) dX8_readArticle_130 ?_
            refine lv_iload_n hx hb dX8_readArticle_133 rfl (lv_at hl 1 rfl) ?_
            obtain ⟨g66, hres⟩ := gd hres
            refine th_ild hx hb hK hI 12 0 rfl rfl g66 dX8_readArticle_134 ?_
            refine lv_bipush (v := (-9)) hx hb dX8_readArticle_135 (by decide) ?_
            refine lv_icmp_ne (tgt := 142) hx hb dX8_readArticle_137 (by decide) (fun c67 => ?_) (fun c67 => ?_)
            · replace hres := (if_neg c67).symm.trans hres
              refine lv_aload_n hx hb dX8_readArticle_142 rfl (lv_at hl 2 rfl) ?_
              refine lv_iload_n hx hb dX8_readArticle_143 rfl (lv_at hl 3 rfl) ?_
              refine lv_iconst (v := 0) hx hb dX8_readArticle_144 (by decide) ?_
              refine lv_iconst (v := 4) hx hb dX8_readArticle_145 (by decide) ?_
              obtain ⟨y68, e68, hres⟩ := bd hres
              refine rw_v S (c_X8_digit l D cy A X A0 y64.2.1 (va_up y64.2.2 11 (upd (y64.2.2 11) (v 9).toNatClampNeg y64.1)) a1 (0 : Int32) (4 : Int32) y68.1 y68.2.1 y68.2.2 e68) (cwV 3 hts gX8_readArticle_X8_digit rfl rfl rfl (by decide +kernel) ⟨Nat.le_of_ble_eq_true rfl, Nat.le_of_ble_eq_true rfl⟩) hI hK hN (ci := 7) rfl (atM_0) rfl rfl hl.1 rfl (Nat.le_of_ble_eq_true rfl) dX8_readArticle_146 ⟨Nat.zero_le _, Nat.zero_le _⟩ (fun H locs hI => ?_)
              refine lv_istore (lv' := [(4, .int y68.1), (3, .int (r 2 (v 6).toNatClampNeg)), (2, .int (v 9)), (0, .ref (A 0)), (1, .int a1)]) hx hb dX8_readArticle_149 hl (by decide) rfl (fun ls hl => ?_)
              refine lv_iload hx hb dX8_readArticle_151 (lv_at hl 0 rfl) ?_
              refine lv_bipush (v := (-9)) hx hb dX8_readArticle_153 (by decide) ?_
              refine lv_icmp_ne (tgt := 160) hx hb dX8_readArticle_155 (by decide) (fun c69 => ?_) (fun c69 => ?_)
              · replace hres := (if_neg c69).symm.trans hres
                refine lv_aload_n hx hb dX8_readArticle_160 rfl (lv_at hl 3 rfl) ?_
                refine lv_iload_n hx hb dX8_readArticle_161 rfl (lv_at hl 4 rfl) ?_
                refine lv_iconst (v := 0) hx hb dX8_readArticle_162 (by decide) ?_
                refine lv_bipush (v := 9) hx hb dX8_readArticle_163 (by decide) ?_
                obtain ⟨y70, e70, hres⟩ := bd hres
                refine rw_v S (c_X8_digit l D cy A X A0 y68.2.1 y68.2.2 a1 (0 : Int32) (9 : Int32) y70.1 y70.2.1 y70.2.2 e70) (cwV 3 hts gX8_readArticle_X8_digit rfl rfl rfl (by decide +kernel) ⟨Nat.le_of_ble_eq_true rfl, Nat.le_of_ble_eq_true rfl⟩) hI hK hN (ci := 7) rfl (atM_0) rfl rfl hl.1 rfl (Nat.le_of_ble_eq_true rfl) dX8_readArticle_165 ⟨Nat.zero_le _, Nat.zero_le _⟩ (fun H locs hI => ?_)
                refine lv_istore (lv' := [(5, .int y70.1), (4, .int y68.1), (3, .int (r 2 (v 6).toNatClampNeg)), (2, .int (v 9)), (0, .ref (A 0)), (1, .int a1)]) hx hb dX8_readArticle_168 hl (by decide) rfl (fun ls hl => ?_)
                refine lv_aload_n hx hb dX8_readArticle_170 rfl (lv_at hl 4 rfl) ?_
                refine gM_readLonging hx hb hts in8 hown hK hI (hts (.fieldLink RX8 46 "TrickHouseModel" "readLonging" "[I") (by decide +kernel)) dX8_readArticle_171 ?_
                refine lv_iload_n hx hb dX8_readArticle_174 rfl (lv_at hl 3 rfl) ?_
                refine lv_bipush (v := 10) hx hb dX8_readArticle_175 (by decide) ?_
                refine lv_iload hx hb dX8_readArticle_177 (lv_at hl 1 rfl) ?_
                refine lv_imul hx hb dX8_readArticle_179 ?_
                refine lv_iload hx hb dX8_readArticle_180 (lv_at hl 0 rfl) ?_
                refine lv_iadd hx hb dX8_readArticle_182 ?_
                obtain ⟨g71, hres⟩ := gd hres
                refine th_ist hx hb hK hI 13 0 rfl rfl g71 stM_r13 dX8_readArticle_183 (fun H locs hI => ?_)
                refine lv_aload_n hx hb dX8_readArticle_184 rfl (lv_at hl 4 rfl) ?_
                refine lv_dup hx hb dX8_readArticle_185 rfl ?_
                refine gM_readArticles hx hb hts in8 hown hK hI (hts (.fieldLink RX8 113 "TrickHouseModel" "readArticles" "I") (by decide +kernel)) dX8_readArticle_186 ?_
                refine lv_iconst (v := 1) hx hb dX8_readArticle_189 (by decide) ?_
                refine lv_iadd hx hb dX8_readArticle_190 ?_
                refine pM_readArticles hx hb hts in8 hown hK hI (hts (.fieldLink RX8 113 "TrickHouseModel" "readArticles" "I") (by decide +kernel)) dX8_readArticle_191 (fun H locs hI => ?_)
                refine lv_iload hx hb dX8_readArticle_194 (lv_at hl 0 rfl) ?_
                refine lv_bipush (v := (-9)) hx hb dX8_readArticle_196 (by decide) ?_
                refine lv_icmp_eq (tgt := 205) hx hb dX8_readArticle_198 (by decide) (fun c72 => ?_) (fun c72 => ?_)
                · replace hres := (if_pos c72).symm.trans hres
                  refine lv_iconst (v := 0) hx hb dX8_readArticle_205 (by decide) ?_
                  obtain ⟨rfl, rfl, rfl⟩ := pr3 hres
                  exact W.zret hx hb hr rfl (fun t ht hW => ⟨rfl, ⟨by rw [ht]; exact hI.1, va_K.moved hW.alike hK, hI.2.1, NW.warm hW hN⟩, hI.2.2.F ht⟩) hI.2.2.2.2 dX8_readArticle_206
                · replace hres := (if_neg c72).symm.trans hres
                  refine lv_iconst (v := 1) hx hb dX8_readArticle_201 (by decide) ?_
                  refine lv_goto (tgt := 206) hx hb dX8_readArticle_202 (by decide) ?_
                  obtain ⟨rfl, rfl, rfl⟩ := pr3 hres
                  exact W.zret hx hb hr rfl (fun t ht hW => ⟨rfl, ⟨by rw [ht]; exact hI.1, va_K.moved hW.alike hK, hI.2.1, NW.warm hW hN⟩, hI.2.2.F ht⟩) hI.2.2.2.2 dX8_readArticle_206
              · replace hres := (if_pos c69).symm.trans hres
                refine lv_iconst (v := 0) hx hb dX8_readArticle_158 (by decide) ?_
                obtain ⟨rfl, rfl, rfl⟩ := pr3 hres
                exact W.zret hx hb hr rfl (fun t ht hW => ⟨rfl, ⟨by rw [ht]; exact hI.1, va_K.moved hW.alike hK, hI.2.1, NW.warm hW hN⟩, hI.2.2.F ht⟩) hI.2.2.2.2 dX8_readArticle_159
            · replace hres := (if_pos c67).symm.trans hres
              refine lv_iconst (v := 0) hx hb dX8_readArticle_140 (by decide) ?_
              obtain ⟨rfl, rfl, rfl⟩ := pr3 hres
              exact W.zret hx hb hr rfl (fun t ht hW => ⟨rfl, ⟨by rw [ht]; exact hI.1, va_K.moved hW.alike hK, hI.2.1, NW.warm hW hN⟩, hI.2.2.F ht⟩) hI.2.2.2.2 dX8_readArticle_141
          · replace hres := (if_pos c63).symm.trans hres
            refine lv_iconst (v := 0) hx hb dX8_readArticle_113 (by decide) ?_
            obtain ⟨rfl, rfl, rfl⟩ := pr3 hres
            exact W.zret hx hb hr rfl (fun t ht hW => ⟨rfl, ⟨by rw [ht]; exact hI.1, va_K.moved hW.alike hK, hI.2.1, NW.warm hW hN⟩, hI.2.2.F ht⟩) hI.2.2.2.2 dX8_readArticle_114
        · replace hres := (if_pos c59).symm.trans hres
          refine lv_iconst (v := 0) hx hb dX8_readArticle_76 (by decide) ?_
          obtain ⟨rfl, rfl, rfl⟩ := pr3 hres
          exact W.zret hx hb hr rfl (fun t ht hW => ⟨rfl, ⟨by rw [ht]; exact hI.1, va_K.moved hW.alike hK, hI.2.1, NW.warm hW hN⟩, hI.2.2.F ht⟩) hI.2.2.2.2 dX8_readArticle_77
    · replace hres := (if_pos c22).symm.trans hres
      refine lv_iconst (v := 0) hx hb dX8_readArticle_38 (by decide) ?_
      refine lv_goto (tgt := 64) hx hb dX8_readArticle_39 (by decide) ?_
      obtain ⟨g73, hres⟩ := gd hres
      refine th_ist hx hb hK hI 10 0 rfl rfl g73 stM_r10 dX8_readArticle_64 (fun H locs hI => ?_)
      refine lv_aload_n hx hb dX8_readArticle_65 rfl (lv_at hl 2 rfl) ?_
      refine gM_readKind hx hb hts in8 hown hK hI (hts (.fieldLink RX8 37 "TrickHouseModel" "readKind" "[I") (by decide +kernel)) dX8_readArticle_66 ?_
      refine lv_iload_n hx hb dX8_readArticle_69 rfl (lv_at hl 1 rfl) ?_
      obtain ⟨g74, hres⟩ := gd hres
      refine th_ild hx hb hK hI 10 0 rfl rfl g74 dX8_readArticle_70 ?_
      refine lv_bipush (v := (-9)) hx hb dX8_readArticle_71 (by decide) ?_
      refine lv_icmp_ne (tgt := 78) hx hb dX8_readArticle_73 (by decide) (fun c75 => ?_) (fun c75 => ?_)
      · replace hres := (if_neg c75).symm.trans hres
        refine lv_aload_n hx hb dX8_readArticle_78 rfl (lv_at hl 2 rfl) ?_
        refine lv_dup hx hb dX8_readArticle_79 rfl ?_
        refine gM_at hx hb hts in8 hown hK hI (hts (.fieldLink RX8 80 "TrickHouseModel" "at" "I") (by decide +kernel)) dX8_readArticle_80 ?_
        refine lv_iconst (v := 1) hx hb dX8_readArticle_83 (by decide) ?_
        refine lv_iadd hx hb dX8_readArticle_84 ?_
        refine pM_at hx hb hts in8 hown hK hI (hts (.fieldLink RX8 80 "TrickHouseModel" "at" "I") (by decide +kernel)) dX8_readArticle_85 (fun H locs hI => ?_)
        refine lv_aload_n hx hb dX8_readArticle_88 rfl (lv_at hl 2 rfl) ?_
        refine gM_readBulk hx hb hts in8 hown hK hI (hts (.fieldLink RX8 40 "TrickHouseModel" "readBulk" "[I") (by decide +kernel)) dX8_readArticle_89 ?_
        refine lv_iload_n hx hb dX8_readArticle_92 rfl (lv_at hl 1 rfl) ?_
        refine lv_aload_n hx hb dX8_readArticle_93 rfl (lv_at hl 2 rfl) ?_
        refine lv_iload_n hx hb dX8_readArticle_94 rfl (lv_at hl 3 rfl) ?_
        refine lv_iconst (v := 1) hx hb dX8_readArticle_95 (by decide) ?_
        refine lv_bipush (v := 9) hx hb dX8_readArticle_96 (by decide) ?_
        obtain ⟨y76, e76, hres⟩ := bd hres
        refine rw_v S (c_X8_digit l D cy A X A0 (upd v 6 ((v 6) + 1)) (va_up r 9 (upd (r 9) (v 9).toNatClampNeg 0)) a1 (1 : Int32) (9 : Int32) y76.1 y76.2.1 y76.2.2 e76) (cwV 3 hts gX8_readArticle_X8_digit rfl rfl rfl (by decide +kernel) ⟨Nat.le_of_ble_eq_true rfl, Nat.le_of_ble_eq_true rfl⟩) hI hK hN (ci := 7) rfl (atM_0) rfl rfl hl.1 rfl (Nat.le_of_ble_eq_true rfl) dX8_readArticle_98 ⟨Nat.zero_le _, Nat.zero_le _⟩ (fun H locs hI => ?_)
        obtain ⟨g77, hres⟩ := gd hres
        refine th_ist hx hb hK hI 11 0 rfl rfl g77 stM_r11 dX8_readArticle_101 (fun H locs hI => ?_)
        refine lv_aload_n hx hb dX8_readArticle_102 rfl (lv_at hl 2 rfl) ?_
        refine gM_readBulk hx hb hts in8 hown hK hI (hts (.fieldLink RX8 40 "TrickHouseModel" "readBulk" "[I") (by decide +kernel)) dX8_readArticle_103 ?_
        refine lv_iload_n hx hb dX8_readArticle_106 rfl (lv_at hl 1 rfl) ?_
        obtain ⟨g78, hres⟩ := gd hres
        refine th_ild hx hb hK hI 11 0 rfl rfl g78 dX8_readArticle_107 ?_
        refine lv_bipush (v := (-9)) hx hb dX8_readArticle_108 (by decide) ?_
        refine lv_icmp_ne (tgt := 115) hx hb dX8_readArticle_110 (by decide) (fun c79 => ?_) (fun c79 => ?_)
        · replace hres := (if_neg c79).symm.trans hres
          refine lv_aload_n hx hb dX8_readArticle_115 rfl (lv_at hl 2 rfl) ?_
          refine gM_readGaiety hx hb hts in8 hown hK hI (hts (.fieldLink RX8 43 "TrickHouseModel" "readGaiety" "[I") (by decide +kernel)) dX8_readArticle_116 ?_
          refine lv_iload_n hx hb dX8_readArticle_119 rfl (lv_at hl 1 rfl) ?_
          refine lv_aload_n hx hb dX8_readArticle_120 rfl (lv_at hl 2 rfl) ?_
          refine lv_iload_n hx hb dX8_readArticle_121 rfl (lv_at hl 3 rfl) ?_
          refine lv_iconst (v := 0) hx hb dX8_readArticle_122 (by decide) ?_
          refine lv_bipush (v := 9) hx hb dX8_readArticle_123 (by decide) ?_
          obtain ⟨y80, e80, hres⟩ := bd hres
          refine rw_v S (c_X8_digit l D cy A X A0 y76.2.1 (va_up y76.2.2 10 (upd (y76.2.2 10) (v 9).toNatClampNeg y76.1)) a1 (0 : Int32) (9 : Int32) y80.1 y80.2.1 y80.2.2 e80) (cwV 3 hts gX8_readArticle_X8_digit rfl rfl rfl (by decide +kernel) ⟨Nat.le_of_ble_eq_true rfl, Nat.le_of_ble_eq_true rfl⟩) hI hK hN (ci := 7) rfl (atM_0) rfl rfl hl.1 rfl (Nat.le_of_ble_eq_true rfl) dX8_readArticle_125 ⟨Nat.zero_le _, Nat.zero_le _⟩ (fun H locs hI => ?_)
          obtain ⟨g81, hres⟩ := gd hres
          refine th_ist hx hb hK hI 12 0 rfl rfl g81 stM_r12 dX8_readArticle_128 (fun H locs hI => ?_)
          refine lv_aload_n hx hb dX8_readArticle_129 rfl (lv_at hl 2 rfl) ?_
          refine gM_readGaiety hx hb hts in8 hown hK hI (hts (.fieldLink RX8 43 "TrickHouseModel" "readGaiety" "[I") (by decide +kernel)) dX8_readArticle_130 ?_
          refine lv_iload_n hx hb dX8_readArticle_133 rfl (lv_at hl 1 rfl) ?_
          obtain ⟨g82, hres⟩ := gd hres
          refine th_ild hx hb hK hI 12 0 rfl rfl g82 dX8_readArticle_134 ?_
          refine lv_bipush (v := (-9)) hx hb dX8_readArticle_135 (by decide) ?_
          refine lv_icmp_ne (tgt := 142) hx hb dX8_readArticle_137 (by decide) (fun c83 => ?_) (fun c83 => ?_)
          · replace hres := (if_neg c83).symm.trans hres
            refine lv_aload_n hx hb dX8_readArticle_142 rfl (lv_at hl 2 rfl) ?_
            refine lv_iload_n hx hb dX8_readArticle_143 rfl (lv_at hl 3 rfl) ?_
            refine lv_iconst (v := 0) hx hb dX8_readArticle_144 (by decide) ?_
            refine lv_iconst (v := 4) hx hb dX8_readArticle_145 (by decide) ?_
            obtain ⟨y84, e84, hres⟩ := bd hres
            refine rw_v S (c_X8_digit l D cy A X A0 y80.2.1 (va_up y80.2.2 11 (upd (y80.2.2 11) (v 9).toNatClampNeg y80.1)) a1 (0 : Int32) (4 : Int32) y84.1 y84.2.1 y84.2.2 e84) (cwV 3 hts gX8_readArticle_X8_digit rfl rfl rfl (by decide +kernel) ⟨Nat.le_of_ble_eq_true rfl, Nat.le_of_ble_eq_true rfl⟩) hI hK hN (ci := 7) rfl (atM_0) rfl rfl hl.1 rfl (Nat.le_of_ble_eq_true rfl) dX8_readArticle_146 ⟨Nat.zero_le _, Nat.zero_le _⟩ (fun H locs hI => ?_)
            refine lv_istore (lv' := [(4, .int y84.1), (3, .int (r 2 (v 6).toNatClampNeg)), (2, .int (v 9)), (0, .ref (A 0)), (1, .int a1)]) hx hb dX8_readArticle_149 hl (by decide) rfl (fun ls hl => ?_)
            refine lv_iload hx hb dX8_readArticle_151 (lv_at hl 0 rfl) ?_
            refine lv_bipush (v := (-9)) hx hb dX8_readArticle_153 (by decide) ?_
            refine lv_icmp_ne (tgt := 160) hx hb dX8_readArticle_155 (by decide) (fun c85 => ?_) (fun c85 => ?_)
            · replace hres := (if_neg c85).symm.trans hres
              refine lv_aload_n hx hb dX8_readArticle_160 rfl (lv_at hl 3 rfl) ?_
              refine lv_iload_n hx hb dX8_readArticle_161 rfl (lv_at hl 4 rfl) ?_
              refine lv_iconst (v := 0) hx hb dX8_readArticle_162 (by decide) ?_
              refine lv_bipush (v := 9) hx hb dX8_readArticle_163 (by decide) ?_
              obtain ⟨y86, e86, hres⟩ := bd hres
              refine rw_v S (c_X8_digit l D cy A X A0 y84.2.1 y84.2.2 a1 (0 : Int32) (9 : Int32) y86.1 y86.2.1 y86.2.2 e86) (cwV 3 hts gX8_readArticle_X8_digit rfl rfl rfl (by decide +kernel) ⟨Nat.le_of_ble_eq_true rfl, Nat.le_of_ble_eq_true rfl⟩) hI hK hN (ci := 7) rfl (atM_0) rfl rfl hl.1 rfl (Nat.le_of_ble_eq_true rfl) dX8_readArticle_165 ⟨Nat.zero_le _, Nat.zero_le _⟩ (fun H locs hI => ?_)
              refine lv_istore (lv' := [(5, .int y86.1), (4, .int y84.1), (3, .int (r 2 (v 6).toNatClampNeg)), (2, .int (v 9)), (0, .ref (A 0)), (1, .int a1)]) hx hb dX8_readArticle_168 hl (by decide) rfl (fun ls hl => ?_)
              refine lv_aload_n hx hb dX8_readArticle_170 rfl (lv_at hl 4 rfl) ?_
              refine gM_readLonging hx hb hts in8 hown hK hI (hts (.fieldLink RX8 46 "TrickHouseModel" "readLonging" "[I") (by decide +kernel)) dX8_readArticle_171 ?_
              refine lv_iload_n hx hb dX8_readArticle_174 rfl (lv_at hl 3 rfl) ?_
              refine lv_bipush (v := 10) hx hb dX8_readArticle_175 (by decide) ?_
              refine lv_iload hx hb dX8_readArticle_177 (lv_at hl 1 rfl) ?_
              refine lv_imul hx hb dX8_readArticle_179 ?_
              refine lv_iload hx hb dX8_readArticle_180 (lv_at hl 0 rfl) ?_
              refine lv_iadd hx hb dX8_readArticle_182 ?_
              obtain ⟨g87, hres⟩ := gd hres
              refine th_ist hx hb hK hI 13 0 rfl rfl g87 stM_r13 dX8_readArticle_183 (fun H locs hI => ?_)
              refine lv_aload_n hx hb dX8_readArticle_184 rfl (lv_at hl 4 rfl) ?_
              refine lv_dup hx hb dX8_readArticle_185 rfl ?_
              refine gM_readArticles hx hb hts in8 hown hK hI (hts (.fieldLink RX8 113 "TrickHouseModel" "readArticles" "I") (by decide +kernel)) dX8_readArticle_186 ?_
              refine lv_iconst (v := 1) hx hb dX8_readArticle_189 (by decide) ?_
              refine lv_iadd hx hb dX8_readArticle_190 ?_
              refine pM_readArticles hx hb hts in8 hown hK hI (hts (.fieldLink RX8 113 "TrickHouseModel" "readArticles" "I") (by decide +kernel)) dX8_readArticle_191 (fun H locs hI => ?_)
              refine lv_iload hx hb dX8_readArticle_194 (lv_at hl 0 rfl) ?_
              refine lv_bipush (v := (-9)) hx hb dX8_readArticle_196 (by decide) ?_
              refine lv_icmp_eq (tgt := 205) hx hb dX8_readArticle_198 (by decide) (fun c88 => ?_) (fun c88 => ?_)
              · replace hres := (if_pos c88).symm.trans hres
                refine lv_iconst (v := 0) hx hb dX8_readArticle_205 (by decide) ?_
                obtain ⟨rfl, rfl, rfl⟩ := pr3 hres
                exact W.zret hx hb hr rfl (fun t ht hW => ⟨rfl, ⟨by rw [ht]; exact hI.1, va_K.moved hW.alike hK, hI.2.1, NW.warm hW hN⟩, hI.2.2.F ht⟩) hI.2.2.2.2 dX8_readArticle_206
              · replace hres := (if_neg c88).symm.trans hres
                refine lv_iconst (v := 1) hx hb dX8_readArticle_201 (by decide) ?_
                refine lv_goto (tgt := 206) hx hb dX8_readArticle_202 (by decide) ?_
                obtain ⟨rfl, rfl, rfl⟩ := pr3 hres
                exact W.zret hx hb hr rfl (fun t ht hW => ⟨rfl, ⟨by rw [ht]; exact hI.1, va_K.moved hW.alike hK, hI.2.1, NW.warm hW hN⟩, hI.2.2.F ht⟩) hI.2.2.2.2 dX8_readArticle_206
            · replace hres := (if_pos c85).symm.trans hres
              refine lv_iconst (v := 0) hx hb dX8_readArticle_158 (by decide) ?_
              obtain ⟨rfl, rfl, rfl⟩ := pr3 hres
              exact W.zret hx hb hr rfl (fun t ht hW => ⟨rfl, ⟨by rw [ht]; exact hI.1, va_K.moved hW.alike hK, hI.2.1, NW.warm hW hN⟩, hI.2.2.F ht⟩) hI.2.2.2.2 dX8_readArticle_159
          · replace hres := (if_pos c83).symm.trans hres
            refine lv_iconst (v := 0) hx hb dX8_readArticle_140 (by decide) ?_
            obtain ⟨rfl, rfl, rfl⟩ := pr3 hres
            exact W.zret hx hb hr rfl (fun t ht hW => ⟨rfl, ⟨by rw [ht]; exact hI.1, va_K.moved hW.alike hK, hI.2.1, NW.warm hW hN⟩, hI.2.2.F ht⟩) hI.2.2.2.2 dX8_readArticle_141
        · replace hres := (if_pos c79).symm.trans hres
          refine lv_iconst (v := 0) hx hb dX8_readArticle_113 (by decide) ?_
          obtain ⟨rfl, rfl, rfl⟩ := pr3 hres
          exact W.zret hx hb hr rfl (fun t ht hW => ⟨rfl, ⟨by rw [ht]; exact hI.1, va_K.moved hW.alike hK, hI.2.1, NW.warm hW hN⟩, hI.2.2.F ht⟩) hI.2.2.2.2 dX8_readArticle_114
      · replace hres := (if_pos c75).symm.trans hres
        refine lv_iconst (v := 0) hx hb dX8_readArticle_76 (by decide) ?_
        obtain ⟨rfl, rfl, rfl⟩ := pr3 hres
        exact W.zret hx hb hr rfl (fun t ht hW => ⟨rfl, ⟨by rw [ht]; exact hI.1, va_K.moved hW.alike hK, hI.2.1, NW.warm hW hN⟩, hI.2.2.F ht⟩) hI.2.2.2.2 dX8_readArticle_77
abbrev rm_X8_readCity : Room := { frames := 3, cells := 0, slots := 0, locals := 70 }
def f_X8_readCity_79 (a1 : Int32) : Nat → (Nat → Int32) → (Nat → Nat → Int32) → Option (Bool × ST)
  | 0, _, _ => none
  | n79 + 1, v, r => (if (v 9) = 0 then (f_X8_isSign v r a1 (59 : Int32)).bind (fun y12 => (if y12.1 = true then (f_X8_readArticle y12.2.1 y12.2.2 a1).bind (fun y14 => (if y14.1 = true then f_X8_readCity_79 a1 n79 y14.2.1 y14.2.2 else some (false, (y14.2.1, y14.2.2)))) else some (false, (y12.2.1, y12.2.2)))) else (if 6 ≤ (v 9) then (if (v 6) = a1 then some (true, (v, r)) else some (false, (v, r))) else (if a1 ≤ (v 6) then (if (v 6) = a1 then some (true, (v, r)) else some (false, (v, r))) else (f_X8_isSign v r a1 (59 : Int32)).bind (fun y20 => (if y20.1 = true then (f_X8_readArticle y20.2.1 y20.2.2 a1).bind (fun y22 => (if y22.1 = true then f_X8_readCity_79 a1 n79 y22.2.1 y22.2.2 else some (false, (y22.2.1, y22.2.2)))) else some (false, (y20.2.1, y20.2.2)))))))
theorem f_X8_readCity_79_s (a1 : Int32) (n79 : Nat) (v : (Nat → Int32)) (r : (Nat → Nat → Int32)) : f_X8_readCity_79 a1 (n79 + 1) v r = (if (v 9) = 0 then (f_X8_isSign v r a1 (59 : Int32)).bind (fun y12 => (if y12.1 = true then (f_X8_readArticle y12.2.1 y12.2.2 a1).bind (fun y14 => (if y14.1 = true then f_X8_readCity_79 a1 n79 y14.2.1 y14.2.2 else some (false, (y14.2.1, y14.2.2)))) else some (false, (y12.2.1, y12.2.2)))) else (if 6 ≤ (v 9) then (if (v 6) = a1 then some (true, (v, r)) else some (false, (v, r))) else (if a1 ≤ (v 6) then (if (v 6) = a1 then some (true, (v, r)) else some (false, (v, r))) else (f_X8_isSign v r a1 (59 : Int32)).bind (fun y20 => (if y20.1 = true then (f_X8_readArticle y20.2.1 y20.2.2 a1).bind (fun y22 => (if y22.1 = true then f_X8_readCity_79 a1 n79 y22.2.1 y22.2.2 else some (false, (y22.2.1, y22.2.2)))) else some (false, (y20.2.1, y20.2.2))))))) := rfl
def f_X8_readCity (v : Nat → Int32) (r : Nat → Nat → Int32) (a1 : Int32) : Option (Bool × ST) := (f_X8_isSign v r a1 (118 : Int32)).bind (fun y1 => (if y1.1 = true then (f_X8_digit y1.2.1 y1.2.2 a1 (0 : Int32) (7 : Int32)).bind (fun y3 => (if y3.1 = (-9) then some (false, (y3.2.1, y3.2.2)) else (f_X8_digit y3.2.1 y3.2.2 a1 (0 : Int32) (7 : Int32)).bind (fun y5 => (if y5.1 = (-9) then some (false, ((upd y5.2.1 7 ((8 * y5.1) + y3.1)), y5.2.2)) else (f_X8_isSign (upd y5.2.1 7 ((8 * y5.1) + y3.1)) y5.2.2 a1 (47 : Int32)).bind (fun y7 => (if y7.1 = true then (f_X8_readTheRooms y7.2.1 y7.2.2 a1).bind (fun y9 => (if y9.1 = true then f_X8_readCity_79 a1 80 (upd y9.2.1 9 0) y9.2.2 else some (false, (y9.2.1, y9.2.2)))) else some (false, (y7.2.1, y7.2.2)))))))) else some (false, (y1.2.1, y1.2.2))))
set_option maxHeartbeats 4000000 in
set_option maxRecDepth 100000 in
theorem c_X8_readCity (l : Launch) (D : va_G) (cy : Nat → ClassId) (A : Nat → Nat) (X : va_W) (A0 : Nat → Prop) (v : Nat → Int32) (r : Nat → Nat → Int32) (a1 : Int32) (res : Bool) (v2 : Nat → Int32) (r2 : Nat → Nat → Int32) (hres : f_X8_readCity v r a1 = some (res, (v2, r2))) : Met l yX8_readCity wsX8_readCity rm_X8_readCity (va_Pc [.ref (A 0), .int a1] (GW D (tyM cy) (pcM cy A v r ++ X) A0)) (QW (some (.int (bI res))) (GW D (tyM cy) (pcM cy A v2 r2 ++ X) A0) A0) 0 0 A0 := by
  refine Met.ofW (cc := cX8_readCity) (maxL := 4) (ret := (some .boolean)) (by decide) rfl ?_
  intro p e s m args below meth c s₁ B hml hv
  obtain ⟨hargs, hP, hK, hD0, hN⟩ := hv
  have hx := B.exec
  have hb := B.bytes
  have hr := B.returns
  have hts := atoms_spec (ws := wsX8_readCity) B.pre
  have hown : s.vm.findClass RX8 = some m.cls := findClass_of_methodNamed B.named
  have hlocks := B.notSynchronized
  have hI : IW D (pcM cy A v r ++ X) A0 s.heap s.heap [] := ⟨hP, hD0, va_S.rf⟩
  have S : CallFix p m c cX8_readCity 4 s args wsX8_readCity RX8 := ⟨hx, hb, hml, hown, hts⟩
  have in8 : ∀ w ∈ wsX80, w ∈ wsX8_readCity := fun _ h => List.mem_cons_of_mem _ (List.mem_append_right _ h)
  have hl := lv_entry ([.ref (A 0), .int a1]) (n := 4) (Nat.le_of_ble_eq_true rfl)
  have hE : entryFrame m args 4 = F0 m 0 ((lg_sl ([.ref (A 0), .int a1]) ++ List.replicate (4 - (lg_sl ([.ref (A 0), .int a1])).length) Slot.unset).toArray) [] := by rw [hargs]; exact lg_entry_eq m [.ref (A 0), .int a1] 4
  rw [hE]
  generalize (lg_sl ([.ref (A 0), .int a1]) ++ List.replicate (4 - (lg_sl ([.ref (A 0), .int a1])).length) Slot.unset).toArray = ls at hl ⊢
  have hl : lv_has ls 4 [(0, .ref (A 0)), (1, .int a1)] := hl
  unfold f_X8_readCity at hres
  refine lv_aload_n hx hb dX8_readCity_0 rfl (lv_at hl 0 rfl) ?_
  refine lv_iload_n hx hb dX8_readCity_1 rfl (lv_at hl 1 rfl) ?_
  refine lv_bipush (v := 118) hx hb dX8_readCity_2 (by decide) ?_
  obtain ⟨y1, e1, hres⟩ := bd hres
  refine rw_v S (c_X8_isSign l D cy A X A0 v r a1 (118 : Int32) y1.1 y1.2.1 y1.2.2 e1) (cwV 2 hts gX8_readCity_X8_isSign rfl rfl rfl (by decide +kernel) ⟨Nat.le_of_ble_eq_true rfl, Nat.le_of_ble_eq_true rfl⟩) hI hK hN (ci := 7) rfl (atM_0) rfl rfl hl.1 rfl (Nat.le_of_ble_eq_true rfl) dX8_readCity_4 ⟨Nat.zero_le _, Nat.zero_le _⟩ (fun H locs hI => ?_)
  refine lv_if_ne (tgt := 12) hx hb dX8_readCity_7 (by decide) (fun c2 => ?_) (fun c2 => ?_)
  · replace hres := (if_pos (bI_t c2)).symm.trans hres
    refine lv_aload_n hx hb dX8_readCity_12 rfl (lv_at hl 0 rfl) ?_
    refine lv_iload_n hx hb dX8_readCity_13 rfl (lv_at hl 1 rfl) ?_
    refine lv_iconst (v := 0) hx hb dX8_readCity_14 (by decide) ?_
    refine lv_bipush (v := 7) hx hb dX8_readCity_15 (by decide) ?_
    obtain ⟨y3, e3, hres⟩ := bd hres
    refine rw_v S (c_X8_digit l D cy A X A0 y1.2.1 y1.2.2 a1 (0 : Int32) (7 : Int32) y3.1 y3.2.1 y3.2.2 e3) (cwV 3 hts gX8_readCity_X8_digit rfl rfl rfl (by decide +kernel) ⟨Nat.le_of_ble_eq_true rfl, Nat.le_of_ble_eq_true rfl⟩) hI hK hN (ci := 7) rfl (atM_0) rfl rfl hl.1 rfl (Nat.le_of_ble_eq_true rfl) dX8_readCity_17 ⟨Nat.zero_le _, Nat.zero_le _⟩ (fun H locs hI => ?_)
    refine lv_istore_n (lv' := [(2, .int y3.1), (0, .ref (A 0)), (1, .int a1)]) hx hb dX8_readCity_20 rfl hl (by decide) rfl (fun ls hl => ?_)
    refine lv_iload_n hx hb dX8_readCity_21 rfl (lv_at hl 0 rfl) ?_
    refine lv_bipush (v := (-9)) hx hb dX8_readCity_22 (by decide) ?_
    refine lv_icmp_ne (tgt := 29) hx hb dX8_readCity_24 (by decide) (fun c4 => ?_) (fun c4 => ?_)
    · replace hres := (if_neg c4).symm.trans hres
      refine lv_aload_n hx hb dX8_readCity_29 rfl (lv_at hl 1 rfl) ?_
      refine lv_iload_n hx hb dX8_readCity_30 rfl (lv_at hl 2 rfl) ?_
      refine lv_iconst (v := 0) hx hb dX8_readCity_31 (by decide) ?_
      refine lv_bipush (v := 7) hx hb dX8_readCity_32 (by decide) ?_
      obtain ⟨y5, e5, hres⟩ := bd hres
      refine rw_v S (c_X8_digit l D cy A X A0 y3.2.1 y3.2.2 a1 (0 : Int32) (7 : Int32) y5.1 y5.2.1 y5.2.2 e5) (cwV 3 hts gX8_readCity_X8_digit rfl rfl rfl (by decide +kernel) ⟨Nat.le_of_ble_eq_true rfl, Nat.le_of_ble_eq_true rfl⟩) hI hK hN (ci := 7) rfl (atM_0) rfl rfl hl.1 rfl (Nat.le_of_ble_eq_true rfl) dX8_readCity_34 ⟨Nat.zero_le _, Nat.zero_le _⟩ (fun H locs hI => ?_)
      refine lv_istore_n (lv' := [(3, .int y5.1), (2, .int y3.1), (0, .ref (A 0)), (1, .int a1)]) hx hb dX8_readCity_37 rfl hl (by decide) rfl (fun ls hl => ?_)
      refine lv_aload_n hx hb dX8_readCity_38 rfl (lv_at hl 2 rfl) ?_
      refine lv_bipush (v := 8) hx hb dX8_readCity_39 (by decide) ?_
      refine lv_iload_n hx hb dX8_readCity_41 rfl (lv_at hl 0 rfl) ?_
      refine lv_imul hx hb dX8_readCity_42 ?_
      refine lv_iload_n hx hb dX8_readCity_43 rfl (lv_at hl 1 rfl) ?_
      refine lv_iadd hx hb dX8_readCity_44 ?_
      refine pM_readStands hx hb hts in8 hown hK hI (hts (.fieldLink RX8 104 "TrickHouseModel" "readStands" "I") (by decide +kernel)) dX8_readCity_45 (fun H locs hI => ?_)
      refine lv_iload_n hx hb dX8_readCity_48 rfl (lv_at hl 0 rfl) ?_
      refine lv_bipush (v := (-9)) hx hb dX8_readCity_49 (by decide) ?_
      refine lv_icmp_eq (tgt := 72) hx hb dX8_readCity_51 (by decide) (fun c6 => ?_) (fun c6 => ?_)
      · replace hres := (if_pos c6).symm.trans hres
        refine lv_iconst (v := 0) hx hb dX8_readCity_72 (by decide) ?_
        obtain ⟨rfl, rfl, rfl⟩ := pr3 hres
        exact W.zret hx hb hr rfl (fun t ht hW => ⟨rfl, ⟨by rw [ht]; exact hI.1, va_K.moved hW.alike hK, hI.2.1, NW.warm hW hN⟩, hI.2.2.F ht⟩) hI.2.2.2.2 dX8_readCity_73
      · replace hres := (if_neg c6).symm.trans hres
        refine lv_aload_n hx hb dX8_readCity_54 rfl (lv_at hl 2 rfl) ?_
        refine lv_iload_n hx hb dX8_readCity_55 rfl (lv_at hl 3 rfl) ?_
        refine lv_bipush (v := 47) hx hb dX8_readCity_56 (by decide) ?_
        obtain ⟨y7, e7, hres⟩ := bd hres
        refine rw_v S (c_X8_isSign l D cy A X A0 (upd y5.2.1 7 ((8 * y5.1) + y3.1)) y5.2.2 a1 (47 : Int32) y7.1 y7.2.1 y7.2.2 e7) (cwV 2 hts gX8_readCity_X8_isSign rfl rfl rfl (by decide +kernel) ⟨Nat.le_of_ble_eq_true rfl, Nat.le_of_ble_eq_true rfl⟩) hI hK hN (ci := 7) rfl (atM_0) rfl rfl hl.1 rfl (Nat.le_of_ble_eq_true rfl) dX8_readCity_58 ⟨Nat.zero_le _, Nat.zero_le _⟩ (fun H locs hI => ?_)
        refine lv_if_eq (tgt := 72) hx hb dX8_readCity_61 (by decide) (fun c8 => ?_) (fun c8 => ?_)
        · replace hres := (if_neg (bI_f c8)).symm.trans hres
          refine lv_iconst (v := 0) hx hb dX8_readCity_72 (by decide) ?_
          obtain ⟨rfl, rfl, rfl⟩ := pr3 hres
          exact W.zret hx hb hr rfl (fun t ht hW => ⟨rfl, ⟨by rw [ht]; exact hI.1, va_K.moved hW.alike hK, hI.2.1, NW.warm hW hN⟩, hI.2.2.F ht⟩) hI.2.2.2.2 dX8_readCity_73
        · replace hres := (if_pos (bI_t c8)).symm.trans hres
          refine lv_aload_n hx hb dX8_readCity_64 rfl (lv_at hl 2 rfl) ?_
          refine lv_iload_n hx hb dX8_readCity_65 rfl (lv_at hl 3 rfl) ?_
          obtain ⟨y9, e9, hres⟩ := bd hres
          refine rw_v S (c_X8_readTheRooms l D cy A X A0 y7.2.1 y7.2.2 a1 y9.1 y9.2.1 y9.2.2 e9) (cwV 1 hts gX8_readCity_X8_readTheRooms rfl rfl rfl (by decide +kernel) ⟨Nat.le_of_ble_eq_true rfl, Nat.le_of_ble_eq_true rfl⟩) hI hK hN (ci := 7) rfl (atM_0) rfl rfl hl.1 rfl (Nat.le_of_ble_eq_true rfl) dX8_readCity_66 ⟨Nat.zero_le _, Nat.zero_le _⟩ (fun H locs hI => ?_)
          refine lv_if_ne (tgt := 74) hx hb dX8_readCity_69 (by decide) (fun c10 => ?_) (fun c10 => ?_)
          · replace hres := (if_pos (bI_t c10)).symm.trans hres
            refine lv_aload_n hx hb dX8_readCity_74 rfl (lv_at hl 2 rfl) ?_
            refine lv_iconst (v := 0) hx hb dX8_readCity_75 (by decide) ?_
            refine pM_readArticles hx hb hts in8 hown hK hI (hts (.fieldLink RX8 113 "TrickHouseModel" "readArticles" "I") (by decide +kernel)) dX8_readCity_76 (fun H locs hI => ?_)
            have w79 : ∀ (n79 : Nat) (v : (Nat → Int32)) (r : (Nat → Nat → Int32)), ∀ (H : Heap) (locs : List Loc), IW D (pcM cy A v r ++ X) A0 s.heap H locs → f_X8_readCity_79 a1 n79 v r = some (res, (v2, r2)) → ∀ ls : Array Slot, lv_has ls 4 [(0, .ref (A 0)), (1, .int a1)] → W p l e (headSpec wsX8_readCity rm_X8_readCity).room s m args below meth c H locs 0 0 (MQ below (QW (some (.int (bI res))) (GW D (tyM cy) (pcM cy A v2 r2 ++ X) A0) A0) args s 0 0 A0) (F0 m 79 ls []) := by
              intro n79
              induction n79 with
              | zero =>
                intro v r H locs hI hres
                have hres : (none : Option (Bool × ST)) = some (res, (v2, r2)) := hres
                cases hres
              | succ n79 ih79 =>
                intro v r H locs hI hres ls hl
                replace hres := (f_X8_readCity_79_s a1 n79 v r).symm.trans hres
                refine lv_aload_n hx hb dX8_readCity_79 rfl (lv_at hl 0 rfl) ?_
                refine gM_readArticles hx hb hts in8 hown hK hI (hts (.fieldLink RX8 113 "TrickHouseModel" "readArticles" "I") (by decide +kernel)) dX8_readCity_80 ?_
                refine lv_if_eq (tgt := 103) hx hb dX8_readCity_83 (by decide) (fun c11 => ?_) (fun c11 => ?_)
                · replace hres := (if_pos c11).symm.trans hres
                  refine lv_aload_n hx hb dX8_readCity_103 rfl (lv_at hl 0 rfl) ?_
                  refine lv_iload_n hx hb dX8_readCity_104 rfl (lv_at hl 1 rfl) ?_
                  refine lv_bipush (v := 59) hx hb dX8_readCity_105 (by decide) ?_
                  obtain ⟨y12, e12, hres⟩ := bd hres
                  refine rw_v S (c_X8_isSign l D cy A X A0 v r a1 (59 : Int32) y12.1 y12.2.1 y12.2.2 e12) (cwV 2 hts gX8_readCity_X8_isSign rfl rfl rfl (by decide +kernel) ⟨Nat.le_of_ble_eq_true rfl, Nat.le_of_ble_eq_true rfl⟩) hI hK hN (ci := 7) rfl (atM_0) rfl rfl hl.1 rfl (Nat.le_of_ble_eq_true rfl) dX8_readCity_107 ⟨Nat.zero_le _, Nat.zero_le _⟩ (fun H locs hI => ?_)
                  refine lv_if_eq (tgt := 121) hx hb dX8_readCity_110 (by decide) (fun c13 => ?_) (fun c13 => ?_)
                  · replace hres := (if_neg (bI_f c13)).symm.trans hres
                    refine lv_iconst (v := 0) hx hb dX8_readCity_121 (by decide) ?_
                    obtain ⟨rfl, rfl, rfl⟩ := pr3 hres
                    exact W.zret hx hb hr rfl (fun t ht hW => ⟨rfl, ⟨by rw [ht]; exact hI.1, va_K.moved hW.alike hK, hI.2.1, NW.warm hW hN⟩, hI.2.2.F ht⟩) hI.2.2.2.2 dX8_readCity_122
                  · replace hres := (if_pos (bI_t c13)).symm.trans hres
                    refine lv_aload_n hx hb dX8_readCity_113 rfl (lv_at hl 0 rfl) ?_
                    refine lv_iload_n hx hb dX8_readCity_114 rfl (lv_at hl 1 rfl) ?_
                    obtain ⟨y14, e14, hres⟩ := bd hres
                    refine rw_v S (c_X8_readArticle l D cy A X A0 y12.2.1 y12.2.2 a1 y14.1 y14.2.1 y14.2.2 e14) (cwV 1 hts gX8_readCity_X8_readArticle rfl rfl rfl (by decide +kernel) ⟨Nat.le_of_ble_eq_true rfl, Nat.le_of_ble_eq_true rfl⟩) hI hK hN (ci := 7) rfl (atM_0) rfl rfl hl.1 rfl (Nat.le_of_ble_eq_true rfl) dX8_readCity_115 ⟨Nat.zero_le _, Nat.zero_le _⟩ (fun H locs hI => ?_)
                    refine lv_if_ne (tgt := 79) hx hb dX8_readCity_118 (by decide) (fun c15 => ?_) (fun c15 => ?_)
                    · replace hres := (if_pos (bI_t c15)).symm.trans hres
                      exact ih79 y14.2.1 y14.2.2 _ _ hI hres ls (lv_sub hl [0, 1] rfl)
                    · replace hres := (if_neg (bI_f c15)).symm.trans hres
                      refine lv_iconst (v := 0) hx hb dX8_readCity_121 (by decide) ?_
                      obtain ⟨rfl, rfl, rfl⟩ := pr3 hres
                      exact W.zret hx hb hr rfl (fun t ht hW => ⟨rfl, ⟨by rw [ht]; exact hI.1, va_K.moved hW.alike hK, hI.2.1, NW.warm hW hN⟩, hI.2.2.F ht⟩) hI.2.2.2.2 dX8_readCity_122
                · replace hres := (if_neg c11).symm.trans hres
                  refine lv_aload_n hx hb dX8_readCity_86 rfl (lv_at hl 0 rfl) ?_
                  refine gM_readArticles hx hb hts in8 hown hK hI (hts (.fieldLink RX8 113 "TrickHouseModel" "readArticles" "I") (by decide +kernel)) dX8_readCity_87 ?_
                  refine lv_bipush (v := 6) hx hb dX8_readCity_90 (by decide) ?_
                  refine lv_icmp_ge (tgt := 123) hx hb dX8_readCity_92 (by decide) (fun c16 => ?_) (fun c16 => ?_)
                  · replace hres := (if_pos c16).symm.trans hres
                    refine lv_aload_n hx hb dX8_readCity_123 rfl (lv_at hl 0 rfl) ?_
                    refine gM_at hx hb hts in8 hown hK hI (hts (.fieldLink RX8 80 "TrickHouseModel" "at" "I") (by decide +kernel)) dX8_readCity_124 ?_
                    refine lv_iload_n hx hb dX8_readCity_127 rfl (lv_at hl 1 rfl) ?_
                    refine lv_icmp_ne (tgt := 135) hx hb dX8_readCity_128 (by decide) (fun c17 => ?_) (fun c17 => ?_)
                    · replace hres := (if_neg c17).symm.trans hres
                      refine lv_iconst (v := 0) hx hb dX8_readCity_135 (by decide) ?_
                      obtain ⟨rfl, rfl, rfl⟩ := pr3 hres
                      exact W.zret hx hb hr rfl (fun t ht hW => ⟨rfl, ⟨by rw [ht]; exact hI.1, va_K.moved hW.alike hK, hI.2.1, NW.warm hW hN⟩, hI.2.2.F ht⟩) hI.2.2.2.2 dX8_readCity_136
                    · replace hres := (if_pos c17).symm.trans hres
                      refine lv_iconst (v := 1) hx hb dX8_readCity_131 (by decide) ?_
                      refine lv_goto (tgt := 136) hx hb dX8_readCity_132 (by decide) ?_
                      obtain ⟨rfl, rfl, rfl⟩ := pr3 hres
                      exact W.zret hx hb hr rfl (fun t ht hW => ⟨rfl, ⟨by rw [ht]; exact hI.1, va_K.moved hW.alike hK, hI.2.1, NW.warm hW hN⟩, hI.2.2.F ht⟩) hI.2.2.2.2 dX8_readCity_136
                  · replace hres := (if_neg c16).symm.trans hres
                    refine lv_aload_n hx hb dX8_readCity_95 rfl (lv_at hl 0 rfl) ?_
                    refine gM_at hx hb hts in8 hown hK hI (hts (.fieldLink RX8 80 "TrickHouseModel" "at" "I") (by decide +kernel)) dX8_readCity_96 ?_
                    refine lv_iload_n hx hb dX8_readCity_99 rfl (lv_at hl 1 rfl) ?_
                    refine lv_icmp_ge (tgt := 123) hx hb dX8_readCity_100 (by decide) (fun c18 => ?_) (fun c18 => ?_)
                    · replace hres := (if_pos c18).symm.trans hres
                      refine lv_aload_n hx hb dX8_readCity_123 rfl (lv_at hl 0 rfl) ?_
                      refine gM_at hx hb hts in8 hown hK hI (hts (.fieldLink RX8 80 "TrickHouseModel" "at" "I") (by decide +kernel)) dX8_readCity_124 ?_
                      refine lv_iload_n hx hb dX8_readCity_127 rfl (lv_at hl 1 rfl) ?_
                      refine lv_icmp_ne (tgt := 135) hx hb dX8_readCity_128 (by decide) (fun c19 => ?_) (fun c19 => ?_)
                      · replace hres := (if_neg c19).symm.trans hres
                        refine lv_iconst (v := 0) hx hb dX8_readCity_135 (by decide) ?_
                        obtain ⟨rfl, rfl, rfl⟩ := pr3 hres
                        exact W.zret hx hb hr rfl (fun t ht hW => ⟨rfl, ⟨by rw [ht]; exact hI.1, va_K.moved hW.alike hK, hI.2.1, NW.warm hW hN⟩, hI.2.2.F ht⟩) hI.2.2.2.2 dX8_readCity_136
                      · replace hres := (if_pos c19).symm.trans hres
                        refine lv_iconst (v := 1) hx hb dX8_readCity_131 (by decide) ?_
                        refine lv_goto (tgt := 136) hx hb dX8_readCity_132 (by decide) ?_
                        obtain ⟨rfl, rfl, rfl⟩ := pr3 hres
                        exact W.zret hx hb hr rfl (fun t ht hW => ⟨rfl, ⟨by rw [ht]; exact hI.1, va_K.moved hW.alike hK, hI.2.1, NW.warm hW hN⟩, hI.2.2.F ht⟩) hI.2.2.2.2 dX8_readCity_136
                    · replace hres := (if_neg c18).symm.trans hres
                      refine lv_aload_n hx hb dX8_readCity_103 rfl (lv_at hl 0 rfl) ?_
                      refine lv_iload_n hx hb dX8_readCity_104 rfl (lv_at hl 1 rfl) ?_
                      refine lv_bipush (v := 59) hx hb dX8_readCity_105 (by decide) ?_
                      obtain ⟨y20, e20, hres⟩ := bd hres
                      refine rw_v S (c_X8_isSign l D cy A X A0 v r a1 (59 : Int32) y20.1 y20.2.1 y20.2.2 e20) (cwV 2 hts gX8_readCity_X8_isSign rfl rfl rfl (by decide +kernel) ⟨Nat.le_of_ble_eq_true rfl, Nat.le_of_ble_eq_true rfl⟩) hI hK hN (ci := 7) rfl (atM_0) rfl rfl hl.1 rfl (Nat.le_of_ble_eq_true rfl) dX8_readCity_107 ⟨Nat.zero_le _, Nat.zero_le _⟩ (fun H locs hI => ?_)
                      refine lv_if_eq (tgt := 121) hx hb dX8_readCity_110 (by decide) (fun c21 => ?_) (fun c21 => ?_)
                      · replace hres := (if_neg (bI_f c21)).symm.trans hres
                        refine lv_iconst (v := 0) hx hb dX8_readCity_121 (by decide) ?_
                        obtain ⟨rfl, rfl, rfl⟩ := pr3 hres
                        exact W.zret hx hb hr rfl (fun t ht hW => ⟨rfl, ⟨by rw [ht]; exact hI.1, va_K.moved hW.alike hK, hI.2.1, NW.warm hW hN⟩, hI.2.2.F ht⟩) hI.2.2.2.2 dX8_readCity_122
                      · replace hres := (if_pos (bI_t c21)).symm.trans hres
                        refine lv_aload_n hx hb dX8_readCity_113 rfl (lv_at hl 0 rfl) ?_
                        refine lv_iload_n hx hb dX8_readCity_114 rfl (lv_at hl 1 rfl) ?_
                        obtain ⟨y22, e22, hres⟩ := bd hres
                        refine rw_v S (c_X8_readArticle l D cy A X A0 y20.2.1 y20.2.2 a1 y22.1 y22.2.1 y22.2.2 e22) (cwV 1 hts gX8_readCity_X8_readArticle rfl rfl rfl (by decide +kernel) ⟨Nat.le_of_ble_eq_true rfl, Nat.le_of_ble_eq_true rfl⟩) hI hK hN (ci := 7) rfl (atM_0) rfl rfl hl.1 rfl (Nat.le_of_ble_eq_true rfl) dX8_readCity_115 ⟨Nat.zero_le _, Nat.zero_le _⟩ (fun H locs hI => ?_)
                        refine lv_if_ne (tgt := 79) hx hb dX8_readCity_118 (by decide) (fun c23 => ?_) (fun c23 => ?_)
                        · replace hres := (if_pos (bI_t c23)).symm.trans hres
                          exact ih79 y22.2.1 y22.2.2 _ _ hI hres ls (lv_sub hl [0, 1] rfl)
                        · replace hres := (if_neg (bI_f c23)).symm.trans hres
                          refine lv_iconst (v := 0) hx hb dX8_readCity_121 (by decide) ?_
                          obtain ⟨rfl, rfl, rfl⟩ := pr3 hres
                          exact W.zret hx hb hr rfl (fun t ht hW => ⟨rfl, ⟨by rw [ht]; exact hI.1, va_K.moved hW.alike hK, hI.2.1, NW.warm hW hN⟩, hI.2.2.F ht⟩) hI.2.2.2.2 dX8_readCity_122
            exact w79 80 (upd y9.2.1 9 0) y9.2.2 _ _ hI hres ls (lv_sub hl [2, 3] rfl)
          · replace hres := (if_neg (bI_f c10)).symm.trans hres
            refine lv_iconst (v := 0) hx hb dX8_readCity_72 (by decide) ?_
            obtain ⟨rfl, rfl, rfl⟩ := pr3 hres
            exact W.zret hx hb hr rfl (fun t ht hW => ⟨rfl, ⟨by rw [ht]; exact hI.1, va_K.moved hW.alike hK, hI.2.1, NW.warm hW hN⟩, hI.2.2.F ht⟩) hI.2.2.2.2 dX8_readCity_73
    · replace hres := (if_pos c4).symm.trans hres
      refine lv_iconst (v := 0) hx hb dX8_readCity_27 (by decide) ?_
      obtain ⟨rfl, rfl, rfl⟩ := pr3 hres
      exact W.zret hx hb hr rfl (fun t ht hW => ⟨rfl, ⟨by rw [ht]; exact hI.1, va_K.moved hW.alike hK, hI.2.1, NW.warm hW hN⟩, hI.2.2.F ht⟩) hI.2.2.2.2 dX8_readCity_28
  · replace hres := (if_neg (bI_f c2)).symm.trans hres
    refine lv_iconst (v := 0) hx hb dX8_readCity_10 (by decide) ?_
    obtain ⟨rfl, rfl, rfl⟩ := pr3 hres
    exact W.zret hx hb hr rfl (fun t ht hW => ⟨rfl, ⟨by rw [ht]; exact hI.1, va_K.moved hW.alike hK, hI.2.1, NW.warm hW hN⟩, hI.2.2.F ht⟩) hI.2.2.2.2 dX8_readCity_11
abbrev rm_X8_takeCity : Room := { frames := 0, cells := 0, slots := 0, locals := 0 }
def f_X8_takeCity_54  : Nat → Int32 → (Nat → Int32) → (Nat → Nat → Int32) → Option ST
  | 0, _, _, _ => none
  | n54 + 1, x1, v, r => (if (v 4) ≤ x1 then some (((upd (upd v 5 0) 13 0), r)) else if inR x1 6 = true then if inR x1 6 = true then if inR x1 6 = true then if inR x1 6 = true then if inR x1 6 = true then if inR x1 6 = true then if inR x1 6 = true then if inR x1 6 = true then f_X8_takeCity_54  n54 (x1 + 1) v (va_up (va_up (va_up (va_up r 4 (upd (r 4) x1.toNatClampNeg (r 9 x1.toNatClampNeg))) 5 (upd ((va_up r 4 (upd (r 4) x1.toNatClampNeg (r 9 x1.toNatClampNeg))) 5) x1.toNatClampNeg ((va_up r 4 (upd (r 4) x1.toNatClampNeg (r 9 x1.toNatClampNeg))) 10 x1.toNatClampNeg))) 6 (upd ((va_up (va_up r 4 (upd (r 4) x1.toNatClampNeg (r 9 x1.toNatClampNeg))) 5 (upd ((va_up r 4 (upd (r 4) x1.toNatClampNeg (r 9 x1.toNatClampNeg))) 5) x1.toNatClampNeg ((va_up r 4 (upd (r 4) x1.toNatClampNeg (r 9 x1.toNatClampNeg))) 10 x1.toNatClampNeg))) 6) x1.toNatClampNeg ((va_up (va_up r 4 (upd (r 4) x1.toNatClampNeg (r 9 x1.toNatClampNeg))) 5 (upd ((va_up r 4 (upd (r 4) x1.toNatClampNeg (r 9 x1.toNatClampNeg))) 5) x1.toNatClampNeg ((va_up r 4 (upd (r 4) x1.toNatClampNeg (r 9 x1.toNatClampNeg))) 10 x1.toNatClampNeg))) 11 x1.toNatClampNeg))) 7 (upd ((va_up (va_up (va_up r 4 (upd (r 4) x1.toNatClampNeg (r 9 x1.toNatClampNeg))) 5 (upd ((va_up r 4 (upd (r 4) x1.toNatClampNeg (r 9 x1.toNatClampNeg))) 5) x1.toNatClampNeg ((va_up r 4 (upd (r 4) x1.toNatClampNeg (r 9 x1.toNatClampNeg))) 10 x1.toNatClampNeg))) 6 (upd ((va_up (va_up r 4 (upd (r 4) x1.toNatClampNeg (r 9 x1.toNatClampNeg))) 5 (upd ((va_up r 4 (upd (r 4) x1.toNatClampNeg (r 9 x1.toNatClampNeg))) 5) x1.toNatClampNeg ((va_up r 4 (upd (r 4) x1.toNatClampNeg (r 9 x1.toNatClampNeg))) 10 x1.toNatClampNeg))) 6) x1.toNatClampNeg ((va_up (va_up r 4 (upd (r 4) x1.toNatClampNeg (r 9 x1.toNatClampNeg))) 5 (upd ((va_up r 4 (upd (r 4) x1.toNatClampNeg (r 9 x1.toNatClampNeg))) 5) x1.toNatClampNeg ((va_up r 4 (upd (r 4) x1.toNatClampNeg (r 9 x1.toNatClampNeg))) 10 x1.toNatClampNeg))) 11 x1.toNatClampNeg))) 7) x1.toNatClampNeg ((va_up (va_up (va_up r 4 (upd (r 4) x1.toNatClampNeg (r 9 x1.toNatClampNeg))) 5 (upd ((va_up r 4 (upd (r 4) x1.toNatClampNeg (r 9 x1.toNatClampNeg))) 5) x1.toNatClampNeg ((va_up r 4 (upd (r 4) x1.toNatClampNeg (r 9 x1.toNatClampNeg))) 10 x1.toNatClampNeg))) 6 (upd ((va_up (va_up r 4 (upd (r 4) x1.toNatClampNeg (r 9 x1.toNatClampNeg))) 5 (upd ((va_up r 4 (upd (r 4) x1.toNatClampNeg (r 9 x1.toNatClampNeg))) 5) x1.toNatClampNeg ((va_up r 4 (upd (r 4) x1.toNatClampNeg (r 9 x1.toNatClampNeg))) 10 x1.toNatClampNeg))) 6) x1.toNatClampNeg ((va_up (va_up r 4 (upd (r 4) x1.toNatClampNeg (r 9 x1.toNatClampNeg))) 5 (upd ((va_up r 4 (upd (r 4) x1.toNatClampNeg (r 9 x1.toNatClampNeg))) 5) x1.toNatClampNeg ((va_up r 4 (upd (r 4) x1.toNatClampNeg (r 9 x1.toNatClampNeg))) 10 x1.toNatClampNeg))) 11 x1.toNatClampNeg))) 12 x1.toNatClampNeg))) else none else none else none else none else none else none else none else none)
theorem f_X8_takeCity_54_s  (n54 : Nat) (x1 : Int32) (v : (Nat → Int32)) (r : (Nat → Nat → Int32)) : f_X8_takeCity_54  (n54 + 1) x1 v r = (if (v 4) ≤ x1 then some (((upd (upd v 5 0) 13 0), r)) else if inR x1 6 = true then if inR x1 6 = true then if inR x1 6 = true then if inR x1 6 = true then if inR x1 6 = true then if inR x1 6 = true then if inR x1 6 = true then if inR x1 6 = true then f_X8_takeCity_54  n54 (x1 + 1) v (va_up (va_up (va_up (va_up r 4 (upd (r 4) x1.toNatClampNeg (r 9 x1.toNatClampNeg))) 5 (upd ((va_up r 4 (upd (r 4) x1.toNatClampNeg (r 9 x1.toNatClampNeg))) 5) x1.toNatClampNeg ((va_up r 4 (upd (r 4) x1.toNatClampNeg (r 9 x1.toNatClampNeg))) 10 x1.toNatClampNeg))) 6 (upd ((va_up (va_up r 4 (upd (r 4) x1.toNatClampNeg (r 9 x1.toNatClampNeg))) 5 (upd ((va_up r 4 (upd (r 4) x1.toNatClampNeg (r 9 x1.toNatClampNeg))) 5) x1.toNatClampNeg ((va_up r 4 (upd (r 4) x1.toNatClampNeg (r 9 x1.toNatClampNeg))) 10 x1.toNatClampNeg))) 6) x1.toNatClampNeg ((va_up (va_up r 4 (upd (r 4) x1.toNatClampNeg (r 9 x1.toNatClampNeg))) 5 (upd ((va_up r 4 (upd (r 4) x1.toNatClampNeg (r 9 x1.toNatClampNeg))) 5) x1.toNatClampNeg ((va_up r 4 (upd (r 4) x1.toNatClampNeg (r 9 x1.toNatClampNeg))) 10 x1.toNatClampNeg))) 11 x1.toNatClampNeg))) 7 (upd ((va_up (va_up (va_up r 4 (upd (r 4) x1.toNatClampNeg (r 9 x1.toNatClampNeg))) 5 (upd ((va_up r 4 (upd (r 4) x1.toNatClampNeg (r 9 x1.toNatClampNeg))) 5) x1.toNatClampNeg ((va_up r 4 (upd (r 4) x1.toNatClampNeg (r 9 x1.toNatClampNeg))) 10 x1.toNatClampNeg))) 6 (upd ((va_up (va_up r 4 (upd (r 4) x1.toNatClampNeg (r 9 x1.toNatClampNeg))) 5 (upd ((va_up r 4 (upd (r 4) x1.toNatClampNeg (r 9 x1.toNatClampNeg))) 5) x1.toNatClampNeg ((va_up r 4 (upd (r 4) x1.toNatClampNeg (r 9 x1.toNatClampNeg))) 10 x1.toNatClampNeg))) 6) x1.toNatClampNeg ((va_up (va_up r 4 (upd (r 4) x1.toNatClampNeg (r 9 x1.toNatClampNeg))) 5 (upd ((va_up r 4 (upd (r 4) x1.toNatClampNeg (r 9 x1.toNatClampNeg))) 5) x1.toNatClampNeg ((va_up r 4 (upd (r 4) x1.toNatClampNeg (r 9 x1.toNatClampNeg))) 10 x1.toNatClampNeg))) 11 x1.toNatClampNeg))) 7) x1.toNatClampNeg ((va_up (va_up (va_up r 4 (upd (r 4) x1.toNatClampNeg (r 9 x1.toNatClampNeg))) 5 (upd ((va_up r 4 (upd (r 4) x1.toNatClampNeg (r 9 x1.toNatClampNeg))) 5) x1.toNatClampNeg ((va_up r 4 (upd (r 4) x1.toNatClampNeg (r 9 x1.toNatClampNeg))) 10 x1.toNatClampNeg))) 6 (upd ((va_up (va_up r 4 (upd (r 4) x1.toNatClampNeg (r 9 x1.toNatClampNeg))) 5 (upd ((va_up r 4 (upd (r 4) x1.toNatClampNeg (r 9 x1.toNatClampNeg))) 5) x1.toNatClampNeg ((va_up r 4 (upd (r 4) x1.toNatClampNeg (r 9 x1.toNatClampNeg))) 10 x1.toNatClampNeg))) 6) x1.toNatClampNeg ((va_up (va_up r 4 (upd (r 4) x1.toNatClampNeg (r 9 x1.toNatClampNeg))) 5 (upd ((va_up r 4 (upd (r 4) x1.toNatClampNeg (r 9 x1.toNatClampNeg))) 5) x1.toNatClampNeg ((va_up r 4 (upd (r 4) x1.toNatClampNeg (r 9 x1.toNatClampNeg))) 10 x1.toNatClampNeg))) 11 x1.toNatClampNeg))) 12 x1.toNatClampNeg))) else none else none else none else none else none else none else none else none) := rfl
def f_X8_takeCity_18  : Nat → Int32 → (Nat → Int32) → (Nat → Nat → Int32) → Option ST
  | 0, _, _, _ => none
  | n18 + 1, x1, v, r => (if (v 3) ≤ x1 then f_X8_takeCity_54  80 (0 : Int32) (upd v 4 (v 9)) r else if inR x1 4 = true then if inR x1 4 = true then f_X8_takeCity_18  n18 (x1 + 1) v (va_up r 3 (upd (r 3) x1.toNatClampNeg (r 8 x1.toNatClampNeg))) else none else none)
theorem f_X8_takeCity_18_s  (n18 : Nat) (x1 : Int32) (v : (Nat → Int32)) (r : (Nat → Nat → Int32)) : f_X8_takeCity_18  (n18 + 1) x1 v r = (if (v 3) ≤ x1 then f_X8_takeCity_54  80 (0 : Int32) (upd v 4 (v 9)) r else if inR x1 4 = true then if inR x1 4 = true then f_X8_takeCity_18  n18 (x1 + 1) v (va_up r 3 (upd (r 3) x1.toNatClampNeg (r 8 x1.toNatClampNeg))) else none else none) := rfl
def f_X8_takeCity (v : Nat → Int32) (r : Nat → Nat → Int32) : Option ST := f_X8_takeCity_18  80 (0 : Int32) (upd (upd v 2 (v 7)) 3 ((upd v 2 (v 7)) 8)) r
set_option maxHeartbeats 4000000 in
set_option maxRecDepth 100000 in
theorem c_X8_takeCity (l : Launch) (D : va_G) (cy : Nat → ClassId) (A : Nat → Nat) (X : va_W) (A0 : Nat → Prop) (v : Nat → Int32) (r : Nat → Nat → Int32) (v2 : Nat → Int32) (r2 : Nat → Nat → Int32) (hres : f_X8_takeCity v r = some (v2, r2)) : Met l yX8_takeCity wsX8_takeCity rm_X8_takeCity (va_Pc [.ref (A 0)] (GW D (tyM cy) (pcM cy A v r ++ X) A0)) (QW none (GW D (tyM cy) (pcM cy A v2 r2 ++ X) A0) A0) 0 0 A0 := by
  refine Met.ofW (cc := cX8_takeCity) (maxL := 2) (ret := none) (by decide) rfl ?_
  intro p e s m args below meth c s₁ B hml hv
  obtain ⟨hargs, hP, hK, hD0, hN⟩ := hv
  have hx := B.exec
  have hb := B.bytes
  have hr := B.returns
  have hts := atoms_spec (ws := wsX8_takeCity) B.pre
  have hown : s.vm.findClass RX8 = some m.cls := findClass_of_methodNamed B.named
  have hlocks := B.notSynchronized
  have hI : IW D (pcM cy A v r ++ X) A0 s.heap s.heap [] := ⟨hP, hD0, va_S.rf⟩
  have in8 : ∀ w ∈ wsX80, w ∈ wsX8_takeCity := fun _ h => List.mem_cons_of_mem _ (List.mem_append_right _ h)
  have hl := lv_entry ([.ref (A 0)]) (n := 2) (Nat.le_of_ble_eq_true rfl)
  have hE : entryFrame m args 2 = F0 m 0 ((lg_sl ([.ref (A 0)]) ++ List.replicate (2 - (lg_sl ([.ref (A 0)])).length) Slot.unset).toArray) [] := by rw [hargs]; exact lg_entry_eq m [.ref (A 0)] 2
  rw [hE]
  generalize (lg_sl ([.ref (A 0)]) ++ List.replicate (2 - (lg_sl ([.ref (A 0)])).length) Slot.unset).toArray = ls at hl ⊢
  have hl : lv_has ls 2 [(0, .ref (A 0))] := hl
  unfold f_X8_takeCity at hres
  refine lv_aload_n hx hb dX8_takeCity_0 rfl (lv_at hl 0 rfl) ?_
  refine lv_aload_n hx hb dX8_takeCity_1 rfl (lv_at hl 0 rfl) ?_
  refine gM_readStands hx hb hts in8 hown hK hI (hts (.fieldLink RX8 104 "TrickHouseModel" "readStands" "I") (by decide +kernel)) dX8_takeCity_2 ?_
  refine pM_stands hx hb hts in8 hown hK hI (hts (.fieldLink RX8 107 "TrickHouseModel" "stands" "I") (by decide +kernel)) dX8_takeCity_5 (fun H locs hI => ?_)
  refine lv_aload_n hx hb dX8_takeCity_8 rfl (lv_at hl 0 rfl) ?_
  refine lv_aload_n hx hb dX8_takeCity_9 rfl (lv_at hl 0 rfl) ?_
  refine gM_readRooms hx hb hts in8 hown hK hI (hts (.fieldLink RX8 110 "TrickHouseModel" "readRooms" "I") (by decide +kernel)) dX8_takeCity_10 ?_
  refine pM_rooms hx hb hts in8 hown hK hI (hts (.fieldLink RX8 77 "TrickHouseModel" "rooms" "I") (by decide +kernel)) dX8_takeCity_13 (fun H locs hI => ?_)
  refine lv_iconst (v := 0) hx hb dX8_takeCity_16 (by decide) ?_
  refine lv_istore_n (lv' := [(1, .int 0), (0, .ref (A 0))]) hx hb dX8_takeCity_17 rfl hl (by decide) rfl (fun ls hl => ?_)
  have w18 : ∀ (n18 : Nat) (x1 : Int32) (v : (Nat → Int32)) (r : (Nat → Nat → Int32)), ∀ (H : Heap) (locs : List Loc), IW D (pcM cy A v r ++ X) A0 s.heap H locs → f_X8_takeCity_18  n18 x1 v r = some (v2, r2) → ∀ ls : Array Slot, lv_has ls 2 [(1, .int x1), (0, .ref (A 0))] → W p l e (headSpec wsX8_takeCity rm_X8_takeCity).room s m args below meth c H locs 0 0 (MQ below (QW none (GW D (tyM cy) (pcM cy A v2 r2 ++ X) A0) A0) args s 0 0 A0) (F0 m 18 ls []) := by
    intro n18
    induction n18 with
    | zero =>
      intro x1 v r H locs hI hres
      have hres : (none : Option ST) = some (v2, r2) := hres
      cases hres
    | succ n18 ih18 =>
      intro x1 v r H locs hI hres ls hl
      replace hres := (f_X8_takeCity_18_s  n18 x1 v r).symm.trans hres
      refine lv_iload_n hx hb dX8_takeCity_18 rfl (lv_at hl 0 rfl) ?_
      refine lv_aload_n hx hb dX8_takeCity_19 rfl (lv_at hl 1 rfl) ?_
      refine gM_rooms hx hb hts in8 hown hK hI (hts (.fieldLink RX8 77 "TrickHouseModel" "rooms" "I") (by decide +kernel)) dX8_takeCity_20 ?_
      refine lv_icmp_ge (tgt := 44) hx hb dX8_takeCity_23 (by decide) (fun c1 => ?_) (fun c1 => ?_)
      · replace hres := (if_pos c1).symm.trans hres
        refine lv_aload_n hx hb dX8_takeCity_44 rfl (lv_at hl 1 rfl) ?_
        refine lv_aload_n hx hb dX8_takeCity_45 rfl (lv_at hl 1 rfl) ?_
        refine gM_readArticles hx hb hts in8 hown hK hI (hts (.fieldLink RX8 113 "TrickHouseModel" "readArticles" "I") (by decide +kernel)) dX8_takeCity_46 ?_
        refine pM_articles hx hb hts in8 hown hK hI (hts (.fieldLink RX8 74 "TrickHouseModel" "articles" "I") (by decide +kernel)) dX8_takeCity_49 (fun H locs hI => ?_)
        refine lv_iconst (v := 0) hx hb dX8_takeCity_52 (by decide) ?_
        refine lv_istore_n (lv' := [(1, .int 0), (0, .ref (A 0))]) hx hb dX8_takeCity_53 rfl hl (by decide) rfl (fun ls hl => ?_)
        have w54 : ∀ (n54 : Nat) (x1 : Int32) (v : (Nat → Int32)) (r : (Nat → Nat → Int32)), ∀ (H : Heap) (locs : List Loc), IW D (pcM cy A v r ++ X) A0 s.heap H locs → f_X8_takeCity_54  n54 x1 v r = some (v2, r2) → ∀ ls : Array Slot, lv_has ls 2 [(1, .int x1), (0, .ref (A 0))] → W p l e (headSpec wsX8_takeCity rm_X8_takeCity).room s m args below meth c H locs 0 0 (MQ below (QW none (GW D (tyM cy) (pcM cy A v2 r2 ++ X) A0) A0) args s 0 0 A0) (F0 m 54 ls []) := by
          intro n54
          induction n54 with
          | zero =>
            intro x1 v r H locs hI hres
            have hres : (none : Option ST) = some (v2, r2) := hres
            cases hres
          | succ n54 ih54 =>
            intro x1 v r H locs hI hres ls hl
            replace hres := (f_X8_takeCity_54_s  n54 x1 v r).symm.trans hres
            refine lv_iload_n hx hb dX8_takeCity_54 rfl (lv_at hl 0 rfl) ?_
            refine lv_aload_n hx hb dX8_takeCity_55 rfl (lv_at hl 1 rfl) ?_
            refine gM_articles hx hb hts in8 hown hK hI (hts (.fieldLink RX8 74 "TrickHouseModel" "articles" "I") (by decide +kernel)) dX8_takeCity_56 ?_
            refine lv_icmp_ge (tgt := 116) hx hb dX8_takeCity_59 (by decide) (fun c2 => ?_) (fun c2 => ?_)
            · replace hres := (if_pos c2).symm.trans hres
              refine lv_aload_n hx hb dX8_takeCity_116 rfl (lv_at hl 1 rfl) ?_
              refine lv_iconst (v := 0) hx hb dX8_takeCity_117 (by decide) ?_
              refine pM_thereNow hx hb hts in8 hown hK hI (hts (.fieldLink RX8 116 "TrickHouseModel" "thereNow" "I") (by decide +kernel)) dX8_takeCity_118 (fun H locs hI => ?_)
              refine lv_aload_n hx hb dX8_takeCity_121 rfl (lv_at hl 1 rfl) ?_
              refine lv_iconst (v := 0) hx hb dX8_takeCity_122 (by decide) ?_
              refine pM_readings hx hb hts in8 hown hK hI (hts (.fieldLink RX8 119 "TrickHouseModel" "readings" "I") (by decide +kernel)) dX8_takeCity_123 (fun H locs hI => ?_)
              obtain ⟨rfl, rfl⟩ := pr2 hres
              exact W.vret hx hb hr (fun t ht hW => ⟨rfl, ⟨by rw [ht]; exact hI.1, va_K.moved hW.alike hK, hI.2.1, NW.warm hW hN⟩, hI.2.2.F ht⟩) hI.2.2.2.2 dX8_takeCity_126
            · replace hres := (if_neg c2).symm.trans hres
              refine lv_aload_n hx hb dX8_takeCity_62 rfl (lv_at hl 1 rfl) ?_
              refine gM_kind hx hb hts in8 hown hK hI (hts (.fieldLink RX8 22 "TrickHouseModel" "kind" "[I") (by decide +kernel)) dX8_takeCity_63 ?_
              refine lv_iload_n hx hb dX8_takeCity_66 rfl (lv_at hl 0 rfl) ?_
              refine lv_aload_n hx hb dX8_takeCity_67 rfl (lv_at hl 1 rfl) ?_
              refine gM_readKind hx hb hts in8 hown hK hI (hts (.fieldLink RX8 37 "TrickHouseModel" "readKind" "[I") (by decide +kernel)) dX8_takeCity_68 ?_
              refine lv_iload_n hx hb dX8_takeCity_71 rfl (lv_at hl 0 rfl) ?_
              obtain ⟨g3, hres⟩ := gd hres
              refine th_ild hx hb hK hI 10 0 rfl rfl g3 dX8_takeCity_72 ?_
              obtain ⟨g4, hres⟩ := gd hres
              refine th_ist hx hb hK hI 5 0 rfl rfl g4 stM_r5 dX8_takeCity_73 (fun H locs hI => ?_)
              refine lv_aload_n hx hb dX8_takeCity_74 rfl (lv_at hl 1 rfl) ?_
              refine gM_bulk hx hb hts in8 hown hK hI (hts (.fieldLink RX8 25 "TrickHouseModel" "bulk" "[I") (by decide +kernel)) dX8_takeCity_75 ?_
              refine lv_iload_n hx hb dX8_takeCity_78 rfl (lv_at hl 0 rfl) ?_
              refine lv_aload_n hx hb dX8_takeCity_79 rfl (lv_at hl 1 rfl) ?_
              refine gM_readBulk hx hb hts in8 hown hK hI (hts (.fieldLink RX8 40 "TrickHouseModel" "readBulk" "[I") (by decide +kernel)) dX8_takeCity_80 ?_
              refine lv_iload_n hx hb dX8_takeCity_83 rfl (lv_at hl 0 rfl) ?_
              obtain ⟨g5, hres⟩ := gd hres
              refine th_ild hx hb hK hI 11 0 rfl rfl g5 dX8_takeCity_84 ?_
              obtain ⟨g6, hres⟩ := gd hres
              refine th_ist hx hb hK hI 6 0 rfl rfl g6 stM_r6 dX8_takeCity_85 (fun H locs hI => ?_)
              refine lv_aload_n hx hb dX8_takeCity_86 rfl (lv_at hl 1 rfl) ?_
              refine gM_gaiety hx hb hts in8 hown hK hI (hts (.fieldLink RX8 28 "TrickHouseModel" "gaiety" "[I") (by decide +kernel)) dX8_takeCity_87 ?_
              refine lv_iload_n hx hb dX8_takeCity_90 rfl (lv_at hl 0 rfl) ?_
              refine lv_aload_n hx hb dX8_takeCity_91 rfl (lv_at hl 1 rfl) ?_
              refine gM_readGaiety hx hb hts in8 hown hK hI (hts (.fieldLink RX8 43 "TrickHouseModel" "readGaiety" "[I") (by decide +kernel)) dX8_takeCity_92 ?_
              refine lv_iload_n hx hb dX8_takeCity_95 rfl (lv_at hl 0 rfl) ?_
              obtain ⟨g7, hres⟩ := gd hres
              refine th_ild hx hb hK hI 12 0 rfl rfl g7 dX8_takeCity_96 ?_
              obtain ⟨g8, hres⟩ := gd hres
              refine th_ist hx hb hK hI 7 0 rfl rfl g8 stM_r7 dX8_takeCity_97 (fun H locs hI => ?_)
              refine lv_aload_n hx hb dX8_takeCity_98 rfl (lv_at hl 1 rfl) ?_
              refine gM_longing hx hb hts in8 hown hK hI (hts (.fieldLink RX8 31 "TrickHouseModel" "longing" "[I") (by decide +kernel)) dX8_takeCity_99 ?_
              refine lv_iload_n hx hb dX8_takeCity_102 rfl (lv_at hl 0 rfl) ?_
              refine lv_aload_n hx hb dX8_takeCity_103 rfl (lv_at hl 1 rfl) ?_
              refine gM_readLonging hx hb hts in8 hown hK hI (hts (.fieldLink RX8 46 "TrickHouseModel" "readLonging" "[I") (by decide +kernel)) dX8_takeCity_104 ?_
              refine lv_iload_n hx hb dX8_takeCity_107 rfl (lv_at hl 0 rfl) ?_
              obtain ⟨g9, hres⟩ := gd hres
              refine th_ild hx hb hK hI 13 0 rfl rfl g9 dX8_takeCity_108 ?_
              obtain ⟨g10, hres⟩ := gd hres
              refine th_ist hx hb hK hI 8 0 rfl rfl g10 stM_r8 dX8_takeCity_109 (fun H locs hI => ?_)
              refine lv_iinc (v := (x1 + 1)) (lv' := [(1, .int (x1 + 1)), (0, .ref (A 0))]) hx hb dX8_takeCity_110 hl (k := 0) rfl rfl (by decide) rfl (fun ls hl => ?_)
              refine lv_goto (tgt := 54) hx hb dX8_takeCity_113 (by decide) ?_
              exact ih54 (x1 + 1) v (va_up (va_up (va_up (va_up r 4 (upd (r 4) x1.toNatClampNeg (r 9 x1.toNatClampNeg))) 5 (upd ((va_up r 4 (upd (r 4) x1.toNatClampNeg (r 9 x1.toNatClampNeg))) 5) x1.toNatClampNeg ((va_up r 4 (upd (r 4) x1.toNatClampNeg (r 9 x1.toNatClampNeg))) 10 x1.toNatClampNeg))) 6 (upd ((va_up (va_up r 4 (upd (r 4) x1.toNatClampNeg (r 9 x1.toNatClampNeg))) 5 (upd ((va_up r 4 (upd (r 4) x1.toNatClampNeg (r 9 x1.toNatClampNeg))) 5) x1.toNatClampNeg ((va_up r 4 (upd (r 4) x1.toNatClampNeg (r 9 x1.toNatClampNeg))) 10 x1.toNatClampNeg))) 6) x1.toNatClampNeg ((va_up (va_up r 4 (upd (r 4) x1.toNatClampNeg (r 9 x1.toNatClampNeg))) 5 (upd ((va_up r 4 (upd (r 4) x1.toNatClampNeg (r 9 x1.toNatClampNeg))) 5) x1.toNatClampNeg ((va_up r 4 (upd (r 4) x1.toNatClampNeg (r 9 x1.toNatClampNeg))) 10 x1.toNatClampNeg))) 11 x1.toNatClampNeg))) 7 (upd ((va_up (va_up (va_up r 4 (upd (r 4) x1.toNatClampNeg (r 9 x1.toNatClampNeg))) 5 (upd ((va_up r 4 (upd (r 4) x1.toNatClampNeg (r 9 x1.toNatClampNeg))) 5) x1.toNatClampNeg ((va_up r 4 (upd (r 4) x1.toNatClampNeg (r 9 x1.toNatClampNeg))) 10 x1.toNatClampNeg))) 6 (upd ((va_up (va_up r 4 (upd (r 4) x1.toNatClampNeg (r 9 x1.toNatClampNeg))) 5 (upd ((va_up r 4 (upd (r 4) x1.toNatClampNeg (r 9 x1.toNatClampNeg))) 5) x1.toNatClampNeg ((va_up r 4 (upd (r 4) x1.toNatClampNeg (r 9 x1.toNatClampNeg))) 10 x1.toNatClampNeg))) 6) x1.toNatClampNeg ((va_up (va_up r 4 (upd (r 4) x1.toNatClampNeg (r 9 x1.toNatClampNeg))) 5 (upd ((va_up r 4 (upd (r 4) x1.toNatClampNeg (r 9 x1.toNatClampNeg))) 5) x1.toNatClampNeg ((va_up r 4 (upd (r 4) x1.toNatClampNeg (r 9 x1.toNatClampNeg))) 10 x1.toNatClampNeg))) 11 x1.toNatClampNeg))) 7) x1.toNatClampNeg ((va_up (va_up (va_up r 4 (upd (r 4) x1.toNatClampNeg (r 9 x1.toNatClampNeg))) 5 (upd ((va_up r 4 (upd (r 4) x1.toNatClampNeg (r 9 x1.toNatClampNeg))) 5) x1.toNatClampNeg ((va_up r 4 (upd (r 4) x1.toNatClampNeg (r 9 x1.toNatClampNeg))) 10 x1.toNatClampNeg))) 6 (upd ((va_up (va_up r 4 (upd (r 4) x1.toNatClampNeg (r 9 x1.toNatClampNeg))) 5 (upd ((va_up r 4 (upd (r 4) x1.toNatClampNeg (r 9 x1.toNatClampNeg))) 5) x1.toNatClampNeg ((va_up r 4 (upd (r 4) x1.toNatClampNeg (r 9 x1.toNatClampNeg))) 10 x1.toNatClampNeg))) 6) x1.toNatClampNeg ((va_up (va_up r 4 (upd (r 4) x1.toNatClampNeg (r 9 x1.toNatClampNeg))) 5 (upd ((va_up r 4 (upd (r 4) x1.toNatClampNeg (r 9 x1.toNatClampNeg))) 5) x1.toNatClampNeg ((va_up r 4 (upd (r 4) x1.toNatClampNeg (r 9 x1.toNatClampNeg))) 10 x1.toNatClampNeg))) 11 x1.toNatClampNeg))) 12 x1.toNatClampNeg))) _ _ hI hres ls (lv_sub hl [0, 1] rfl)
        exact w54 80 (0 : Int32) (upd v 4 (v 9)) r _ _ hI hres ls (lv_sub hl [0, 1] rfl)
      · replace hres := (if_neg c1).symm.trans hres
        refine lv_aload_n hx hb dX8_takeCity_26 rfl (lv_at hl 1 rfl) ?_
        refine gM_spaceOf hx hb hts in8 hown hK hI (hts (.fieldLink RX8 19 "TrickHouseModel" "spaceOf" "[I") (by decide +kernel)) dX8_takeCity_27 ?_
        refine lv_iload_n hx hb dX8_takeCity_30 rfl (lv_at hl 0 rfl) ?_
        refine lv_aload_n hx hb dX8_takeCity_31 rfl (lv_at hl 1 rfl) ?_
        refine gM_readSpace hx hb hts in8 hown hK hI (hts (.fieldLink RX8 34 "TrickHouseModel" "readSpace" "[I") (by decide +kernel)) dX8_takeCity_32 ?_
        refine lv_iload_n hx hb dX8_takeCity_35 rfl (lv_at hl 0 rfl) ?_
        obtain ⟨g11, hres⟩ := gd hres
        refine th_ild hx hb hK hI 9 0 rfl rfl g11 dX8_takeCity_36 ?_
        obtain ⟨g12, hres⟩ := gd hres
        refine th_ist hx hb hK hI 4 0 rfl rfl g12 stM_r4 dX8_takeCity_37 (fun H locs hI => ?_)
        refine lv_iinc (v := (x1 + 1)) (lv' := [(1, .int (x1 + 1)), (0, .ref (A 0))]) hx hb dX8_takeCity_38 hl (k := 0) rfl rfl (by decide) rfl (fun ls hl => ?_)
        refine lv_goto (tgt := 18) hx hb dX8_takeCity_41 (by decide) ?_
        exact ih18 (x1 + 1) v (va_up r 3 (upd (r 3) x1.toNatClampNeg (r 8 x1.toNatClampNeg))) _ _ hI hres ls (lv_sub hl [0, 1] rfl)
  exact w18 80 (0 : Int32) (upd (upd v 2 (v 7)) 3 ((upd v 2 (v 7)) 8)) r _ _ hI hres ls (lv_sub hl [0, 1] rfl)
abbrev rm_X8_city : Room := { frames := 4, cells := 0, slots := 0, locals := 93 }
def f_X8_city (v : Nat → Int32) (r : Nat → Nat → Int32) (a1 : Int32) (a2 : Int32) (a3 : Int32) (a4 : Int32) : Option (Int32 × ST) := (if (f_X8_isSheet a1) = true then (if (f_X8_isSort a2) = true then (f_X8_against (upd v 0 0) r a1 a2 a3 a4).bind (fun y5 => (if y5 = 0 then (f_X8_readCity (upd (upd v 0 0) 6 ((60 * a1) + a3)) r (((60 * a1) + a3) + a4)).bind (fun y7 => (if y7.1 = true then (f_X8_takeCity y7.2.1 y7.2.2).bind (fun y9 => some ((y9.1 4), (y9.1, y9.2))) else some (((-100) - ((y7.2.1 6) - ((60 * a1) + a3))), (y7.2.1, y7.2.2)))) else (f_X8_fails (upd v 0 0) r y5).bind (fun y10 => some (y10.1, (y10.2.1, y10.2.2))))) else some ((-2), ((upd v 0 0), r))) else some ((-1), ((upd v 0 0), r)))
set_option maxHeartbeats 4000000 in
set_option maxRecDepth 100000 in
theorem c_X8_city (l : Launch) (D : va_G) (cy : Nat → ClassId) (A : Nat → Nat) (X : va_W) (A0 : Nat → Prop) (v : Nat → Int32) (r : Nat → Nat → Int32) (a1 : Int32) (a2 : Int32) (a3 : Int32) (a4 : Int32) (res : Int32) (v2 : Nat → Int32) (r2 : Nat → Nat → Int32) (hres : f_X8_city v r a1 a2 a3 a4 = some (res, (v2, r2))) : Met l yX8_city wsX8_city rm_X8_city (va_Pc [.ref (A 0), .int a1, .int a2, .int a3, .int a4] (GW D (tyM cy) (pcM cy A v r ++ X) A0)) (QW (some (.int res)) (GW D (tyM cy) (pcM cy A v2 r2 ++ X) A0) A0) 0 0 A0 := by
  refine Met.ofW (cc := cX8_city) (maxL := 7) (ret := (some .int)) (by decide) rfl ?_
  intro p e s m args below meth c s₁ B hml hv
  obtain ⟨hargs, hP, hK, hD0, hN⟩ := hv
  have hx := B.exec
  have hb := B.bytes
  have hr := B.returns
  have hts := atoms_spec (ws := wsX8_city) B.pre
  have hown : s.vm.findClass RX8 = some m.cls := findClass_of_methodNamed B.named
  have hlocks := B.notSynchronized
  have hI : IW D (pcM cy A v r ++ X) A0 s.heap s.heap [] := ⟨hP, hD0, va_S.rf⟩
  have S : CallFix p m c cX8_city 7 s args wsX8_city RX8 := ⟨hx, hb, hml, hown, hts⟩
  have in8 : ∀ w ∈ wsX80, w ∈ wsX8_city := fun _ h => List.mem_cons_of_mem _ (List.mem_append_right _ h)
  have hl := lv_entry ([.ref (A 0), .int a1, .int a2, .int a3, .int a4]) (n := 7) (Nat.le_of_ble_eq_true rfl)
  have hE : entryFrame m args 7 = F0 m 0 ((lg_sl ([.ref (A 0), .int a1, .int a2, .int a3, .int a4]) ++ List.replicate (7 - (lg_sl ([.ref (A 0), .int a1, .int a2, .int a3, .int a4])).length) Slot.unset).toArray) [] := by rw [hargs]; exact lg_entry_eq m [.ref (A 0), .int a1, .int a2, .int a3, .int a4] 7
  rw [hE]
  generalize (lg_sl ([.ref (A 0), .int a1, .int a2, .int a3, .int a4]) ++ List.replicate (7 - (lg_sl ([.ref (A 0), .int a1, .int a2, .int a3, .int a4])).length) Slot.unset).toArray = ls at hl ⊢
  have hl : lv_has ls 7 [(0, .ref (A 0)), (1, .int a1), (2, .int a2), (3, .int a3), (4, .int a4)] := hl
  unfold f_X8_city at hres
  refine lv_aload_n hx hb dX8_city_0 rfl (lv_at hl 0 rfl) ?_
  refine lv_iconst (v := 0) hx hb dX8_city_1 (by decide) ?_
  refine pM_fault hx hb hts in8 hown hK hI (hts (.fieldLink RX8 64 "TrickHouseModel" "fault" "I") (by decide +kernel)) dX8_city_2 (fun H locs hI => ?_)
  refine lv_iload_n hx hb dX8_city_5 rfl (lv_at hl 1 rfl) ?_
  refine pu_s S (c_X8_isSheet l a1 _ rfl) (va_cwS 1 hts gX8_city_X8_isSheet rfl rfl rfl (by decide +kernel) ⟨Nat.le_of_ble_eq_true rfl, Nat.le_of_ble_eq_true rfl⟩) hN rfl hl.1 rfl (Nat.le_of_ble_eq_true rfl) dX8_city_6 ⟨Nat.zero_le _, Nat.zero_le _⟩ ?_
  refine lv_if_ne (tgt := 14) hx hb dX8_city_9 (by decide) (fun c2 => ?_) (fun c2 => ?_)
  · replace hres := (if_pos (bI_t c2)).symm.trans hres
    refine lv_iload_n hx hb dX8_city_14 rfl (lv_at hl 2 rfl) ?_
    refine pu_s S (c_X8_isSort l a2 _ rfl) (va_cwS 1 hts gX8_city_X8_isSort rfl rfl rfl (by decide +kernel) ⟨Nat.le_of_ble_eq_true rfl, Nat.le_of_ble_eq_true rfl⟩) hN rfl hl.1 rfl (Nat.le_of_ble_eq_true rfl) dX8_city_15 ⟨Nat.zero_le _, Nat.zero_le _⟩ ?_
    refine lv_if_ne (tgt := 24) hx hb dX8_city_18 (by decide) (fun c4 => ?_) (fun c4 => ?_)
    · replace hres := (if_pos (bI_t c4)).symm.trans hres
      refine lv_aload_n hx hb dX8_city_24 rfl (lv_at hl 0 rfl) ?_
      refine lv_iload_n hx hb dX8_city_25 rfl (lv_at hl 1 rfl) ?_
      refine lv_iload_n hx hb dX8_city_26 rfl (lv_at hl 2 rfl) ?_
      refine lv_iload_n hx hb dX8_city_27 rfl (lv_at hl 3 rfl) ?_
      refine lv_iload hx hb dX8_city_28 (lv_at hl 4 rfl) ?_
      obtain ⟨y5, e5, hres⟩ := bd hres
      refine ro_v S (c_X8_against l D cy A X A0 (upd v 0 0) r a1 a2 a3 a4 y5 e5) (cwV 4 hts gX8_city_X8_against rfl rfl rfl (by decide +kernel) ⟨Nat.le_of_ble_eq_true rfl, Nat.le_of_ble_eq_true rfl⟩) hI hK hN (ci := 7) rfl (atM_0) rfl rfl hl.1 rfl (Nat.le_of_ble_eq_true rfl) dX8_city_30 ⟨Nat.zero_le _, Nat.zero_le _⟩ ?_
      refine lv_istore (lv' := [(5, .int y5), (0, .ref (A 0)), (1, .int a1), (2, .int a2), (3, .int a3), (4, .int a4)]) hx hb dX8_city_33 hl (by decide) rfl (fun ls hl => ?_)
      refine lv_iload hx hb dX8_city_35 (lv_at hl 0 rfl) ?_
      refine lv_if_eq (tgt := 47) hx hb dX8_city_37 (by decide) (fun c6 => ?_) (fun c6 => ?_)
      · replace hres := (if_pos c6).symm.trans hres
        refine lv_bipush (v := 60) hx hb dX8_city_47 (by decide) ?_
        refine lv_iload_n hx hb dX8_city_49 rfl (lv_at hl 2 rfl) ?_
        refine lv_imul hx hb dX8_city_50 ?_
        refine lv_iload_n hx hb dX8_city_51 rfl (lv_at hl 4 rfl) ?_
        refine lv_iadd hx hb dX8_city_52 ?_
        refine lv_istore (lv' := [(6, .int ((60 * a1) + a3)), (5, .int y5), (0, .ref (A 0)), (1, .int a1), (2, .int a2), (3, .int a3), (4, .int a4)]) hx hb dX8_city_53 hl (by decide) rfl (fun ls hl => ?_)
        refine lv_aload_n hx hb dX8_city_55 rfl (lv_at hl 2 rfl) ?_
        refine lv_iload hx hb dX8_city_56 (lv_at hl 0 rfl) ?_
        refine pM_at hx hb hts in8 hown hK hI (hts (.fieldLink RX8 80 "TrickHouseModel" "at" "I") (by decide +kernel)) dX8_city_58 (fun H locs hI => ?_)
        refine lv_aload_n hx hb dX8_city_61 rfl (lv_at hl 2 rfl) ?_
        refine lv_iload hx hb dX8_city_62 (lv_at hl 0 rfl) ?_
        refine lv_iload hx hb dX8_city_64 (lv_at hl 6 rfl) ?_
        refine lv_iadd hx hb dX8_city_66 ?_
        obtain ⟨y7, e7, hres⟩ := bd hres
        refine rw_v S (c_X8_readCity l D cy A X A0 (upd (upd v 0 0) 6 ((60 * a1) + a3)) r (((60 * a1) + a3) + a4) y7.1 y7.2.1 y7.2.2 e7) (cwV 1 hts gX8_city_X8_readCity rfl rfl rfl (by decide +kernel) ⟨Nat.le_of_ble_eq_true rfl, Nat.le_of_ble_eq_true rfl⟩) hI hK hN (ci := 7) rfl (atM_0) rfl rfl hl.1 rfl (Nat.le_of_ble_eq_true rfl) dX8_city_67 ⟨Nat.zero_le _, Nat.zero_le _⟩ (fun H locs hI => ?_)
        refine lv_if_ne (tgt := 84) hx hb dX8_city_70 (by decide) (fun c8 => ?_) (fun c8 => ?_)
        · replace hres := (if_pos (bI_t c8)).symm.trans hres
          refine lv_aload_n hx hb dX8_city_84 rfl (lv_at hl 2 rfl) ?_
          obtain ⟨y9, e9, hres⟩ := bd hres
          refine rw_v S (c_X8_takeCity l D cy A X A0 y7.2.1 y7.2.2 y9.1 y9.2 e9) (cwV 0 hts gX8_city_X8_takeCity rfl rfl rfl (by decide +kernel) ⟨Nat.le_of_ble_eq_true rfl, Nat.le_of_ble_eq_true rfl⟩) hI hK hN (ci := 7) rfl (atM_0) rfl rfl hl.1 rfl (Nat.le_of_ble_eq_true rfl) dX8_city_85 ⟨Nat.zero_le _, Nat.zero_le _⟩ (fun H locs hI => ?_)
          refine lv_aload_n hx hb dX8_city_88 rfl (lv_at hl 2 rfl) ?_
          refine gM_articles hx hb hts in8 hown hK hI (hts (.fieldLink RX8 74 "TrickHouseModel" "articles" "I") (by decide +kernel)) dX8_city_89 ?_
          obtain ⟨rfl, rfl, rfl⟩ := pr3 hres
          exact W.iret hx hb hr (fun t ht hW => ⟨rfl, ⟨by rw [ht]; exact hI.1, va_K.moved hW.alike hK, hI.2.1, NW.warm hW hN⟩, hI.2.2.F ht⟩) hI.2.2.2.2 dX8_city_92
        · replace hres := (if_neg (bI_f c8)).symm.trans hres
          refine lv_bipush (v := (-100)) hx hb dX8_city_73 (by decide) ?_
          refine lv_aload_n hx hb dX8_city_75 rfl (lv_at hl 2 rfl) ?_
          refine gM_at hx hb hts in8 hown hK hI (hts (.fieldLink RX8 80 "TrickHouseModel" "at" "I") (by decide +kernel)) dX8_city_76 ?_
          refine lv_iload hx hb dX8_city_79 (lv_at hl 0 rfl) ?_
          refine lv_isub hx hb dX8_city_81 ?_
          refine lv_isub hx hb dX8_city_82 ?_
          obtain ⟨rfl, rfl, rfl⟩ := pr3 hres
          exact W.iret hx hb hr (fun t ht hW => ⟨rfl, ⟨by rw [ht]; exact hI.1, va_K.moved hW.alike hK, hI.2.1, NW.warm hW hN⟩, hI.2.2.F ht⟩) hI.2.2.2.2 dX8_city_83
      · replace hres := (if_neg c6).symm.trans hres
        refine lv_aload_n hx hb dX8_city_40 rfl (lv_at hl 1 rfl) ?_
        refine lv_iload hx hb dX8_city_41 (lv_at hl 0 rfl) ?_
        obtain ⟨y10, e10, hres⟩ := bd hres
        refine rw_v S (c_X8_fails l D cy A X A0 (upd v 0 0) r y5 y10.1 y10.2.1 y10.2.2 e10) (cwV 1 hts gX8_city_X8_fails rfl rfl rfl (by decide +kernel) ⟨Nat.le_of_ble_eq_true rfl, Nat.le_of_ble_eq_true rfl⟩) hI hK hN (ci := 7) rfl (atM_0) rfl rfl hl.1 rfl (Nat.le_of_ble_eq_true rfl) dX8_city_43 ⟨Nat.zero_le _, Nat.zero_le _⟩ (fun H locs hI => ?_)
        obtain ⟨rfl, rfl, rfl⟩ := pr3 hres
        exact W.iret hx hb hr (fun t ht hW => ⟨rfl, ⟨by rw [ht]; exact hI.1, va_K.moved hW.alike hK, hI.2.1, NW.warm hW hN⟩, hI.2.2.F ht⟩) hI.2.2.2.2 dX8_city_46
    · replace hres := (if_neg (bI_f c4)).symm.trans hres
      refine lv_bipush (v := (-2)) hx hb dX8_city_21 (by decide) ?_
      obtain ⟨rfl, rfl, rfl⟩ := pr3 hres
      exact W.iret hx hb hr (fun t ht hW => ⟨rfl, ⟨by rw [ht]; exact hI.1, va_K.moved hW.alike hK, hI.2.1, NW.warm hW hN⟩, hI.2.2.F ht⟩) hI.2.2.2.2 dX8_city_23
  · replace hres := (if_neg (bI_f c2)).symm.trans hres
    refine lv_iconst (v := (-1)) hx hb dX8_city_12 (by decide) ?_
    obtain ⟨rfl, rfl, rfl⟩ := pr3 hres
    exact W.iret hx hb hr (fun t ht hW => ⟨rfl, ⟨by rw [ht]; exact hI.1, va_K.moved hW.alike hK, hI.2.1, NW.warm hW hN⟩, hI.2.2.F ht⟩) hI.2.2.2.2 dX8_city_13
abbrev rm_X8_laughOf : Room := { frames := 0, cells := 0, slots := 0, locals := 0 }
def f_X8_laughOf (v : Nat → Int32) (r : Nat → Nat → Int32) (a1 : Int32) : Option Int32 := if inR a1 6 = true then (if (r 4 a1.toNatClampNeg) = 1 then if inR a1 6 = true then (if (r 6 a1.toNatClampNeg) ≤ 0 then some (0) else if inR a1 6 = true then some (((r 6 a1.toNatClampNeg) - 1)) else none) else none else if inR a1 6 = true then (if (r 4 a1.toNatClampNeg) = 0 then if inR a1 6 = true then some ((r 6 a1.toNatClampNeg)) else none else if inR a1 6 = true then some ((2 * (r 6 a1.toNatClampNeg))) else none) else none) else none
set_option maxHeartbeats 4000000 in
set_option maxRecDepth 100000 in
theorem c_X8_laughOf (l : Launch) (D : va_G) (cy : Nat → ClassId) (A : Nat → Nat) (X : va_W) (A0 : Nat → Prop) (v : Nat → Int32) (r : Nat → Nat → Int32) (a1 : Int32) (res : Int32) (hres : f_X8_laughOf v r a1 = some res) : Met l yX8_laughOf wsX8_laughOf rm_X8_laughOf (va_Pc [.ref (A 0), .int a1] (GW D (tyM cy) (pcM cy A v r ++ X) A0)) (QR (.int res)) 0 0 (fun _ => False) := by
  refine Met.ofW (cc := cX8_laughOf) (maxL := 2) (ret := (some .int)) (by decide) rfl ?_
  intro p e s m args below meth c s₁ B hml hv
  obtain ⟨hargs, hP, hK, hD0, hN⟩ := hv
  have hx := B.exec
  have hb := B.bytes
  have hr := B.returns
  have hts := atoms_spec (ws := wsX8_laughOf) B.pre
  have hown : s.vm.findClass RX8 = some m.cls := findClass_of_methodNamed B.named
  have hlocks := B.notSynchronized
  have hI : IW D (pcM cy A v r ++ X) A0 s.heap s.heap [] := ⟨hP, hD0, va_S.rf⟩
  have in8 : ∀ w ∈ wsX80, w ∈ wsX8_laughOf := fun _ h => List.mem_cons_of_mem _ (List.mem_append_right _ h)
  have hl := lv_entry ([.ref (A 0), .int a1]) (n := 2) (Nat.le_of_ble_eq_true rfl)
  have hE : entryFrame m args 2 = F0 m 0 ((lg_sl ([.ref (A 0), .int a1]) ++ List.replicate (2 - (lg_sl ([.ref (A 0), .int a1])).length) Slot.unset).toArray) [] := by rw [hargs]; exact lg_entry_eq m [.ref (A 0), .int a1] 2
  rw [hE]
  generalize (lg_sl ([.ref (A 0), .int a1]) ++ List.replicate (2 - (lg_sl ([.ref (A 0), .int a1])).length) Slot.unset).toArray = ls at hl ⊢
  have hl : lv_has ls 2 [(0, .ref (A 0)), (1, .int a1)] := hl
  unfold f_X8_laughOf at hres
  refine lv_aload_n hx hb dX8_laughOf_0 rfl (lv_at hl 0 rfl) ?_
  refine gM_kind hx hb hts in8 hown hK hI (hts (.fieldLink RX8 22 "TrickHouseModel" "kind" "[I") (by decide +kernel)) dX8_laughOf_1 ?_
  refine lv_iload_n hx hb dX8_laughOf_4 rfl (lv_at hl 1 rfl) ?_
  obtain ⟨g1, hres⟩ := gd hres
  refine th_ild hx hb hK hI 5 0 rfl rfl g1 dX8_laughOf_5 ?_
  refine lv_iconst (v := 1) hx hb dX8_laughOf_6 (by decide) ?_
  refine lv_icmp_ne (tgt := 32) hx hb dX8_laughOf_7 (by decide) (fun c2 => ?_) (fun c2 => ?_)
  · replace hres := (if_neg c2).symm.trans hres
    refine lv_aload_n hx hb dX8_laughOf_32 rfl (lv_at hl 0 rfl) ?_
    refine gM_kind hx hb hts in8 hown hK hI (hts (.fieldLink RX8 22 "TrickHouseModel" "kind" "[I") (by decide +kernel)) dX8_laughOf_33 ?_
    refine lv_iload_n hx hb dX8_laughOf_36 rfl (lv_at hl 1 rfl) ?_
    obtain ⟨g3, hres⟩ := gd hres
    refine th_ild hx hb hK hI 5 0 rfl rfl g3 dX8_laughOf_37 ?_
    refine lv_if_ne (tgt := 50) hx hb dX8_laughOf_38 (by decide) (fun c4 => ?_) (fun c4 => ?_)
    · replace hres := (if_neg c4).symm.trans hres
      refine lv_iconst (v := 2) hx hb dX8_laughOf_50 (by decide) ?_
      refine lv_aload_n hx hb dX8_laughOf_51 rfl (lv_at hl 0 rfl) ?_
      refine gM_gaiety hx hb hts in8 hown hK hI (hts (.fieldLink RX8 28 "TrickHouseModel" "gaiety" "[I") (by decide +kernel)) dX8_laughOf_52 ?_
      refine lv_iload_n hx hb dX8_laughOf_55 rfl (lv_at hl 1 rfl) ?_
      obtain ⟨g5, hres⟩ := gd hres
      refine th_ild hx hb hK hI 7 0 rfl rfl g5 dX8_laughOf_56 ?_
      refine lv_imul hx hb dX8_laughOf_57 ?_
      obtain rfl := Option.some.inj hres
      exact W.iret hx hb hr (fun t ht hW => ⟨rfl, ht⟩) (fun _ h => absurd h List.not_mem_nil) dX8_laughOf_58
    · replace hres := (if_pos c4).symm.trans hres
      refine lv_aload_n hx hb dX8_laughOf_41 rfl (lv_at hl 0 rfl) ?_
      refine gM_gaiety hx hb hts in8 hown hK hI (hts (.fieldLink RX8 28 "TrickHouseModel" "gaiety" "[I") (by decide +kernel)) dX8_laughOf_42 ?_
      refine lv_iload_n hx hb dX8_laughOf_45 rfl (lv_at hl 1 rfl) ?_
      obtain ⟨g6, hres⟩ := gd hres
      refine th_ild hx hb hK hI 7 0 rfl rfl g6 dX8_laughOf_46 ?_
      refine lv_goto (tgt := 58) hx hb dX8_laughOf_47 (by decide) ?_
      obtain rfl := Option.some.inj hres
      exact W.iret hx hb hr (fun t ht hW => ⟨rfl, ht⟩) (fun _ h => absurd h List.not_mem_nil) dX8_laughOf_58
  · replace hres := (if_pos c2).symm.trans hres
    refine lv_aload_n hx hb dX8_laughOf_10 rfl (lv_at hl 0 rfl) ?_
    refine gM_gaiety hx hb hts in8 hown hK hI (hts (.fieldLink RX8 28 "TrickHouseModel" "gaiety" "[I") (by decide +kernel)) dX8_laughOf_11 ?_
    refine lv_iload_n hx hb dX8_laughOf_14 rfl (lv_at hl 1 rfl) ?_
    obtain ⟨g7, hres⟩ := gd hres
    refine th_ild hx hb hK hI 7 0 rfl rfl g7 dX8_laughOf_15 ?_
    refine lv_if_le (tgt := 30) hx hb dX8_laughOf_16 (by decide) (fun c8 => ?_) (fun c8 => ?_)
    · replace hres := (if_pos c8).symm.trans hres
      refine lv_iconst (v := 0) hx hb dX8_laughOf_30 (by decide) ?_
      obtain rfl := Option.some.inj hres
      exact W.iret hx hb hr (fun t ht hW => ⟨rfl, ht⟩) (fun _ h => absurd h List.not_mem_nil) dX8_laughOf_31
    · replace hres := (if_neg c8).symm.trans hres
      refine lv_aload_n hx hb dX8_laughOf_19 rfl (lv_at hl 0 rfl) ?_
      refine gM_gaiety hx hb hts in8 hown hK hI (hts (.fieldLink RX8 28 "TrickHouseModel" "gaiety" "[I") (by decide +kernel)) dX8_laughOf_20 ?_
      refine lv_iload_n hx hb dX8_laughOf_23 rfl (lv_at hl 1 rfl) ?_
      obtain ⟨g9, hres⟩ := gd hres
      refine th_ild hx hb hK hI 7 0 rfl rfl g9 dX8_laughOf_24 ?_
      refine lv_iconst (v := 1) hx hb dX8_laughOf_25 (by decide) ?_
      refine lv_isub hx hb dX8_laughOf_26 ?_
      refine lv_goto (tgt := 31) hx hb dX8_laughOf_27 (by decide) ?_
      obtain rfl := Option.some.inj hres
      exact W.iret hx hb hr (fun t ht hW => ⟨rfl, ht⟩) (fun _ h => absurd h List.not_mem_nil) dX8_laughOf_31
abbrev rm_X8_laughsOf : Room := { frames := 1, cells := 0, slots := 0, locals := 21 }
def f_X8_laughsOf_4 (v : Nat → Int32) (r : Nat → Nat → Int32) (a1 : Int32) : Nat → Int32 → Int32 → Option Int32
  | 0, _, _ => none
  | n4 + 1, x2, x3 => (if (v 4) ≤ x3 then some (x2) else (if (f_X8_isOf a1 x3) = true then (f_X8_laughOf v r x3).bind (fun y4 => f_X8_laughsOf_4 v r a1 n4 (x2 + y4) (x3 + 1)) else f_X8_laughsOf_4 v r a1 n4 (x2 + 0) (x3 + 1)))
theorem f_X8_laughsOf_4_s (v : Nat → Int32) (r : Nat → Nat → Int32) (a1 : Int32) (n4 : Nat) (x2 : Int32) (x3 : Int32) : f_X8_laughsOf_4 v r a1 (n4 + 1) x2 x3 = (if (v 4) ≤ x3 then some (x2) else (if (f_X8_isOf a1 x3) = true then (f_X8_laughOf v r x3).bind (fun y4 => f_X8_laughsOf_4 v r a1 n4 (x2 + y4) (x3 + 1)) else f_X8_laughsOf_4 v r a1 n4 (x2 + 0) (x3 + 1))) := rfl
def f_X8_laughsOf (v : Nat → Int32) (r : Nat → Nat → Int32) (a1 : Int32) : Option Int32 := f_X8_laughsOf_4 v r a1 80 (0 : Int32) (0 : Int32)
set_option maxHeartbeats 4000000 in
set_option maxRecDepth 100000 in
theorem c_X8_laughsOf (l : Launch) (D : va_G) (cy : Nat → ClassId) (A : Nat → Nat) (X : va_W) (A0 : Nat → Prop) (v : Nat → Int32) (r : Nat → Nat → Int32) (a1 : Int32) (res : Int32) (hres : f_X8_laughsOf v r a1 = some res) : Met l yX8_laughsOf wsX8_laughsOf rm_X8_laughsOf (va_Pc [.ref (A 0), .int a1] (GW D (tyM cy) (pcM cy A v r ++ X) A0)) (QR (.int res)) 0 0 (fun _ => False) := by
  refine Met.ofW (cc := cX8_laughsOf) (maxL := 4) (ret := (some .int)) (by decide) rfl ?_
  intro p e s m args below meth c s₁ B hml hv
  obtain ⟨hargs, hP, hK, hD0, hN⟩ := hv
  have hx := B.exec
  have hb := B.bytes
  have hr := B.returns
  have hts := atoms_spec (ws := wsX8_laughsOf) B.pre
  have hown : s.vm.findClass RX8 = some m.cls := findClass_of_methodNamed B.named
  have hlocks := B.notSynchronized
  have hI : IW D (pcM cy A v r ++ X) A0 s.heap s.heap [] := ⟨hP, hD0, va_S.rf⟩
  have S : CallFix p m c cX8_laughsOf 4 s args wsX8_laughsOf RX8 := ⟨hx, hb, hml, hown, hts⟩
  have in8 : ∀ w ∈ wsX80, w ∈ wsX8_laughsOf := fun _ h => List.mem_cons_of_mem _ (List.mem_append_right _ h)
  have hl := lv_entry ([.ref (A 0), .int a1]) (n := 4) (Nat.le_of_ble_eq_true rfl)
  have hE : entryFrame m args 4 = F0 m 0 ((lg_sl ([.ref (A 0), .int a1]) ++ List.replicate (4 - (lg_sl ([.ref (A 0), .int a1])).length) Slot.unset).toArray) [] := by rw [hargs]; exact lg_entry_eq m [.ref (A 0), .int a1] 4
  rw [hE]
  generalize (lg_sl ([.ref (A 0), .int a1]) ++ List.replicate (4 - (lg_sl ([.ref (A 0), .int a1])).length) Slot.unset).toArray = ls at hl ⊢
  have hl : lv_has ls 4 [(0, .ref (A 0)), (1, .int a1)] := hl
  unfold f_X8_laughsOf at hres
  refine lv_iconst (v := 0) hx hb dX8_laughsOf_0 (by decide) ?_
  refine lv_istore_n (lv' := [(2, .int 0), (0, .ref (A 0)), (1, .int a1)]) hx hb dX8_laughsOf_1 rfl hl (by decide) rfl (fun ls hl => ?_)
  refine lv_iconst (v := 0) hx hb dX8_laughsOf_2 (by decide) ?_
  refine lv_istore_n (lv' := [(3, .int 0), (2, .int 0), (0, .ref (A 0)), (1, .int a1)]) hx hb dX8_laughsOf_3 rfl hl (by decide) rfl (fun ls hl => ?_)
  have w4 : ∀ (n4 : Nat) (x2 : Int32) (x3 : Int32), f_X8_laughsOf_4 v r a1 n4 x2 x3 = some res → ∀ ls : Array Slot, lv_has ls 4 [(2, .int x2), (3, .int x3), (0, .ref (A 0)), (1, .int a1)] → W p l e (headSpec wsX8_laughsOf rm_X8_laughsOf).room s m args below meth c s.heap [] 0 0 (MQ below (QR (.int res)) args s 0 0 (fun _ => False)) (F0 m 4 ls []) := by
    intro n4
    induction n4 with
    | zero =>
      intro x2 x3  hres
      have hres : (none : Option Int32) = some res := hres
      cases hres
    | succ n4 ih4 =>
      intro x2 x3  hres ls hl
      replace hres := (f_X8_laughsOf_4_s v r a1 n4 x2 x3).symm.trans hres
      refine lv_iload_n hx hb dX8_laughsOf_4 rfl (lv_at hl 1 rfl) ?_
      refine lv_aload_n hx hb dX8_laughsOf_5 rfl (lv_at hl 2 rfl) ?_
      refine gM_articles hx hb hts in8 hown hK hI (hts (.fieldLink RX8 74 "TrickHouseModel" "articles" "I") (by decide +kernel)) dX8_laughsOf_6 ?_
      refine lv_icmp_ge (tgt := 38) hx hb dX8_laughsOf_9 (by decide) (fun c1 => ?_) (fun c1 => ?_)
      · replace hres := (if_pos c1).symm.trans hres
        refine lv_iload_n hx hb dX8_laughsOf_38 rfl (lv_at hl 0 rfl) ?_
        obtain rfl := Option.some.inj hres
        exact W.iret hx hb hr (fun t ht hW => ⟨rfl, ht⟩) (fun _ h => absurd h List.not_mem_nil) dX8_laughsOf_39
      · replace hres := (if_neg c1).symm.trans hres
        refine lv_iload_n hx hb dX8_laughsOf_12 rfl (lv_at hl 0 rfl) ?_
        refine lv_iload_n hx hb dX8_laughsOf_13 rfl (lv_at hl 3 rfl) ?_
        refine lv_iload_n hx hb dX8_laughsOf_14 rfl (lv_at hl 1 rfl) ?_
        refine pu_s S (c_X8_isOf l a1 x3 _ rfl) (va_cwS 2 hts gX8_laughsOf_X8_isOf rfl rfl rfl (by decide +kernel) ⟨Nat.le_of_ble_eq_true rfl, Nat.le_of_ble_eq_true rfl⟩) hN rfl hl.1 rfl (Nat.le_of_ble_eq_true rfl) dX8_laughsOf_15 ⟨Nat.zero_le _, Nat.zero_le _⟩ ?_
        refine lv_if_eq (tgt := 29) hx hb dX8_laughsOf_18 (by decide) (fun c3 => ?_) (fun c3 => ?_)
        · replace hres := (if_neg (bI_f c3)).symm.trans hres
          refine lv_iconst (v := 0) hx hb dX8_laughsOf_29 (by decide) ?_
          refine lv_iadd hx hb dX8_laughsOf_30 ?_
          refine lv_istore_n (lv' := [(2, .int (x2 + 0)), (3, .int x3), (0, .ref (A 0)), (1, .int a1)]) hx hb dX8_laughsOf_31 rfl hl (by decide) rfl (fun ls hl => ?_)
          refine lv_iinc (v := (x3 + 1)) (lv' := [(3, .int (x3 + 1)), (2, .int (x2 + 0)), (0, .ref (A 0)), (1, .int a1)]) hx hb dX8_laughsOf_32 hl (k := 1) rfl rfl (by decide) rfl (fun ls hl => ?_)
          refine lv_goto (tgt := 4) hx hb dX8_laughsOf_35 (by decide) ?_
          exact ih4 (x2 + 0) (x3 + 1) hres ls (lv_sub hl [1, 0, 2, 3] rfl)
        · replace hres := (if_pos (bI_t c3)).symm.trans hres
          refine lv_aload_n hx hb dX8_laughsOf_21 rfl (lv_at hl 2 rfl) ?_
          refine lv_iload_n hx hb dX8_laughsOf_22 rfl (lv_at hl 1 rfl) ?_
          obtain ⟨y4, e4, hres⟩ := bd hres
          refine ro_v S (c_X8_laughOf l D cy A X A0 v r x3 y4 e4) (cwV 1 hts gX8_laughsOf_X8_laughOf rfl rfl rfl (by decide +kernel) ⟨Nat.le_of_ble_eq_true rfl, Nat.le_of_ble_eq_true rfl⟩) hI hK hN (ci := 7) rfl (atM_0) rfl rfl hl.1 rfl (Nat.le_of_ble_eq_true rfl) dX8_laughsOf_23 ⟨Nat.zero_le _, Nat.zero_le _⟩ ?_
          refine lv_goto (tgt := 30) hx hb dX8_laughsOf_26 (by decide) ?_
          refine lv_iadd hx hb dX8_laughsOf_30 ?_
          refine lv_istore_n (lv' := [(2, .int (x2 + y4)), (3, .int x3), (0, .ref (A 0)), (1, .int a1)]) hx hb dX8_laughsOf_31 rfl hl (by decide) rfl (fun ls hl => ?_)
          refine lv_iinc (v := (x3 + 1)) (lv' := [(3, .int (x3 + 1)), (2, .int (x2 + y4)), (0, .ref (A 0)), (1, .int a1)]) hx hb dX8_laughsOf_32 hl (k := 1) rfl rfl (by decide) rfl (fun ls hl => ?_)
          refine lv_goto (tgt := 4) hx hb dX8_laughsOf_35 (by decide) ?_
          exact ih4 (x2 + y4) (x3 + 1) hres ls (lv_sub hl [1, 0, 2, 3] rfl)
  exact w4 80 (0 : Int32) (0 : Int32) hres ls (lv_sub hl [1, 0, 2, 3] rfl)
abbrev rm_X8_ofArticle : Room := { frames := 1, cells := 0, slots := 0, locals := 21 }
def f_X8_ofArticle (v : Nat → Int32) (r : Nat → Nat → Int32) (a1 : Int32) (a2 : Int32) : Option Int32 := (if (f_X8_isArticle v r a1) = true then (if a2 = 0 then if inR a1 6 = true then some ((r 4 a1.toNatClampNeg)) else none else (if a2 = 1 then if inR a1 6 = true then some ((r 5 a1.toNatClampNeg)) else none else (if a2 = 2 then if inR a1 6 = true then some ((r 6 a1.toNatClampNeg)) else none else (if a2 = 3 then if inR a1 6 = true then some ((r 7 a1.toNatClampNeg)) else none else (if a2 = 4 then (f_X8_laughOf v r a1).bind (fun y12 => some (y12)) else (if a2 = 5 then some ((((v 5) >>> (a1 &&& 31)) &&& 1)) else some ((-2)))))))) else some ((-1)))
set_option maxHeartbeats 4000000 in
set_option maxRecDepth 100000 in
theorem c_X8_ofArticle (l : Launch) (D : va_G) (cy : Nat → ClassId) (A : Nat → Nat) (X : va_W) (A0 : Nat → Prop) (v : Nat → Int32) (r : Nat → Nat → Int32) (a1 : Int32) (a2 : Int32) (res : Int32) (hres : f_X8_ofArticle v r a1 a2 = some res) : Met l yX8_ofArticle wsX8_ofArticle rm_X8_ofArticle (va_Pc [.ref (A 0), .int a1, .int a2] (GW D (tyM cy) (pcM cy A v r ++ X) A0)) (QR (.int res)) 0 0 (fun _ => False) := by
  refine Met.ofW (cc := cX8_ofArticle) (maxL := 3) (ret := (some .int)) (by decide) rfl ?_
  intro p e s m args below meth c s₁ B hml hv
  obtain ⟨hargs, hP, hK, hD0, hN⟩ := hv
  have hx := B.exec
  have hb := B.bytes
  have hr := B.returns
  have hts := atoms_spec (ws := wsX8_ofArticle) B.pre
  have hown : s.vm.findClass RX8 = some m.cls := findClass_of_methodNamed B.named
  have hlocks := B.notSynchronized
  have hI : IW D (pcM cy A v r ++ X) A0 s.heap s.heap [] := ⟨hP, hD0, va_S.rf⟩
  have S : CallFix p m c cX8_ofArticle 3 s args wsX8_ofArticle RX8 := ⟨hx, hb, hml, hown, hts⟩
  have in8 : ∀ w ∈ wsX80, w ∈ wsX8_ofArticle := fun _ h => List.mem_cons_of_mem _ (List.mem_append_right _ h)
  have hl := lv_entry ([.ref (A 0), .int a1, .int a2]) (n := 3) (Nat.le_of_ble_eq_true rfl)
  have hE : entryFrame m args 3 = F0 m 0 ((lg_sl ([.ref (A 0), .int a1, .int a2]) ++ List.replicate (3 - (lg_sl ([.ref (A 0), .int a1, .int a2])).length) Slot.unset).toArray) [] := by rw [hargs]; exact lg_entry_eq m [.ref (A 0), .int a1, .int a2] 3
  rw [hE]
  generalize (lg_sl ([.ref (A 0), .int a1, .int a2]) ++ List.replicate (3 - (lg_sl ([.ref (A 0), .int a1, .int a2])).length) Slot.unset).toArray = ls at hl ⊢
  have hl : lv_has ls 3 [(0, .ref (A 0)), (1, .int a1), (2, .int a2)] := hl
  unfold f_X8_ofArticle at hres
  refine lv_aload_n hx hb dX8_ofArticle_0 rfl (lv_at hl 0 rfl) ?_
  refine lv_iload_n hx hb dX8_ofArticle_1 rfl (lv_at hl 1 rfl) ?_
  refine ro_v S (c_X8_isArticle l D cy A X A0 v r a1 _ rfl) (cwV 1 hts gX8_ofArticle_X8_isArticle rfl rfl rfl (by decide +kernel) ⟨Nat.le_of_ble_eq_true rfl, Nat.le_of_ble_eq_true rfl⟩) hI hK hN (ci := 7) rfl (atM_0) rfl rfl hl.1 rfl (Nat.le_of_ble_eq_true rfl) dX8_ofArticle_2 ⟨Nat.zero_le _, Nat.zero_le _⟩ ?_
  refine lv_if_ne (tgt := 10) hx hb dX8_ofArticle_5 (by decide) (fun c2 => ?_) (fun c2 => ?_)
  · replace hres := (if_pos (bI_t c2)).symm.trans hres
    refine lv_iload_n hx hb dX8_ofArticle_10 rfl (lv_at hl 2 rfl) ?_
    by_cases c3 : a2 = 0
    · replace hres := (if_pos c3).symm.trans hres
      refine lv_tableIn (off := 37) (tgt := 48) hx hb dX8_ofArticle_11 (by rw [c3]; decide) (by rw [c3]; decide) (by rw [c3]; decide) (by decide) ?_
      refine lv_aload_n hx hb dX8_ofArticle_48 rfl (lv_at hl 0 rfl) ?_
      refine gM_kind hx hb hts in8 hown hK hI (hts (.fieldLink RX8 22 "TrickHouseModel" "kind" "[I") (by decide +kernel)) dX8_ofArticle_49 ?_
      refine lv_iload_n hx hb dX8_ofArticle_52 rfl (lv_at hl 1 rfl) ?_
      obtain ⟨g4, hres⟩ := gd hres
      refine th_ild hx hb hK hI 5 0 rfl rfl g4 dX8_ofArticle_53 ?_
      obtain rfl := Option.some.inj hres
      exact W.iret hx hb hr (fun t ht hW => ⟨rfl, ht⟩) (fun _ h => absurd h List.not_mem_nil) dX8_ofArticle_54
    · replace hres := (if_neg c3).symm.trans hres
      by_cases c5 : a2 = 1
      · replace hres := (if_pos c5).symm.trans hres
        refine lv_tableIn (off := 44) (tgt := 55) hx hb dX8_ofArticle_11 (by rw [c5]; decide) (by rw [c5]; decide) (by rw [c5]; decide) (by decide) ?_
        refine lv_aload_n hx hb dX8_ofArticle_55 rfl (lv_at hl 0 rfl) ?_
        refine gM_bulk hx hb hts in8 hown hK hI (hts (.fieldLink RX8 25 "TrickHouseModel" "bulk" "[I") (by decide +kernel)) dX8_ofArticle_56 ?_
        refine lv_iload_n hx hb dX8_ofArticle_59 rfl (lv_at hl 1 rfl) ?_
        obtain ⟨g6, hres⟩ := gd hres
        refine th_ild hx hb hK hI 6 0 rfl rfl g6 dX8_ofArticle_60 ?_
        obtain rfl := Option.some.inj hres
        exact W.iret hx hb hr (fun t ht hW => ⟨rfl, ht⟩) (fun _ h => absurd h List.not_mem_nil) dX8_ofArticle_61
      · replace hres := (if_neg c5).symm.trans hres
        by_cases c7 : a2 = 2
        · replace hres := (if_pos c7).symm.trans hres
          refine lv_tableIn (off := 51) (tgt := 62) hx hb dX8_ofArticle_11 (by rw [c7]; decide) (by rw [c7]; decide) (by rw [c7]; decide) (by decide) ?_
          refine lv_aload_n hx hb dX8_ofArticle_62 rfl (lv_at hl 0 rfl) ?_
          refine gM_gaiety hx hb hts in8 hown hK hI (hts (.fieldLink RX8 28 "TrickHouseModel" "gaiety" "[I") (by decide +kernel)) dX8_ofArticle_63 ?_
          refine lv_iload_n hx hb dX8_ofArticle_66 rfl (lv_at hl 1 rfl) ?_
          obtain ⟨g8, hres⟩ := gd hres
          refine th_ild hx hb hK hI 7 0 rfl rfl g8 dX8_ofArticle_67 ?_
          obtain rfl := Option.some.inj hres
          exact W.iret hx hb hr (fun t ht hW => ⟨rfl, ht⟩) (fun _ h => absurd h List.not_mem_nil) dX8_ofArticle_68
        · replace hres := (if_neg c7).symm.trans hres
          by_cases c9 : a2 = 3
          · replace hres := (if_pos c9).symm.trans hres
            refine lv_tableIn (off := 58) (tgt := 69) hx hb dX8_ofArticle_11 (by rw [c9]; decide) (by rw [c9]; decide) (by rw [c9]; decide) (by decide) ?_
            refine lv_aload_n hx hb dX8_ofArticle_69 rfl (lv_at hl 0 rfl) ?_
            refine gM_longing hx hb hts in8 hown hK hI (hts (.fieldLink RX8 31 "TrickHouseModel" "longing" "[I") (by decide +kernel)) dX8_ofArticle_70 ?_
            refine lv_iload_n hx hb dX8_ofArticle_73 rfl (lv_at hl 1 rfl) ?_
            obtain ⟨g10, hres⟩ := gd hres
            refine th_ild hx hb hK hI 8 0 rfl rfl g10 dX8_ofArticle_74 ?_
            obtain rfl := Option.some.inj hres
            exact W.iret hx hb hr (fun t ht hW => ⟨rfl, ht⟩) (fun _ h => absurd h List.not_mem_nil) dX8_ofArticle_75
          · replace hres := (if_neg c9).symm.trans hres
            by_cases c11 : a2 = 4
            · replace hres := (if_pos c11).symm.trans hres
              refine lv_tableIn (off := 65) (tgt := 76) hx hb dX8_ofArticle_11 (by rw [c11]; decide) (by rw [c11]; decide) (by rw [c11]; decide) (by decide) ?_
              refine lv_aload_n hx hb dX8_ofArticle_76 rfl (lv_at hl 0 rfl) ?_
              refine lv_iload_n hx hb dX8_ofArticle_77 rfl (lv_at hl 1 rfl) ?_
              obtain ⟨y12, e12, hres⟩ := bd hres
              refine ro_v S (c_X8_laughOf l D cy A X A0 v r a1 y12 e12) (cwV 1 hts gX8_ofArticle_X8_laughOf rfl rfl rfl (by decide +kernel) ⟨Nat.le_of_ble_eq_true rfl, Nat.le_of_ble_eq_true rfl⟩) hI hK hN (ci := 7) rfl (atM_0) rfl rfl hl.1 rfl (Nat.le_of_ble_eq_true rfl) dX8_ofArticle_78 ⟨Nat.zero_le _, Nat.zero_le _⟩ ?_
              obtain rfl := Option.some.inj hres
              exact W.iret hx hb hr (fun t ht hW => ⟨rfl, ht⟩) (fun _ h => absurd h List.not_mem_nil) dX8_ofArticle_81
            · replace hres := (if_neg c11).symm.trans hres
              by_cases c13 : a2 = 5
              · replace hres := (if_pos c13).symm.trans hres
                refine lv_tableIn (off := 71) (tgt := 82) hx hb dX8_ofArticle_11 (by rw [c13]; decide) (by rw [c13]; decide) (by rw [c13]; decide) (by decide) ?_
                refine lv_aload_n hx hb dX8_ofArticle_82 rfl (lv_at hl 0 rfl) ?_
                refine gM_thereNow hx hb hts in8 hown hK hI (hts (.fieldLink RX8 116 "TrickHouseModel" "thereNow" "I") (by decide +kernel)) dX8_ofArticle_83 ?_
                refine lv_iload_n hx hb dX8_ofArticle_86 rfl (lv_at hl 1 rfl) ?_
                refine lv_ishr hx hb dX8_ofArticle_87 ?_
                refine lv_iconst (v := 1) hx hb dX8_ofArticle_88 (by decide) ?_
                refine lv_iand hx hb dX8_ofArticle_89 ?_
                obtain rfl := Option.some.inj hres
                exact W.iret hx hb hr (fun t ht hW => ⟨rfl, ht⟩) (fun _ h => absurd h List.not_mem_nil) dX8_ofArticle_90
              · replace hres := (if_neg c13).symm.trans hres
                have e3 := lv_neT c3 (show (0 : Int32).toInt = 0 from rfl)
                have e5 := lv_neT c5 (show (1 : Int32).toInt = 1 from rfl)
                have e7 := lv_neT c7 (show (2 : Int32).toInt = 2 from rfl)
                have e9 := lv_neT c9 (show (3 : Int32).toInt = 3 from rfl)
                have e11 := lv_neT c11 (show (4 : Int32).toInt = 4 from rfl)
                have e13 := lv_neT c13 (show (5 : Int32).toInt = 5 from rfl)
                refine lv_tableOut (tgt := 91) hx hb dX8_ofArticle_11 (by omega) (by decide) ?_
                refine lv_bipush (v := (-2)) hx hb dX8_ofArticle_91 (by decide) ?_
                obtain rfl := Option.some.inj hres
                exact W.iret hx hb hr (fun t ht hW => ⟨rfl, ht⟩) (fun _ h => absurd h List.not_mem_nil) dX8_ofArticle_93
  · replace hres := (if_neg (bI_f c2)).symm.trans hres
    refine lv_iconst (v := (-1)) hx hb dX8_ofArticle_8 (by decide) ?_
    obtain rfl := Option.some.inj hres
    exact W.iret hx hb hr (fun t ht hW => ⟨rfl, ht⟩) (fun _ h => absurd h List.not_mem_nil) dX8_ofArticle_9
abbrev rm_X8_space : Room := { frames := 1, cells := 0, slots := 0, locals := 21 }
def f_X8_space (v : Nat → Int32) (r : Nat → Nat → Int32) (a1 : Int32) : Option Int32 := (if (f_X8_isRoom v r a1) = true then if inR a1 4 = true then some ((r 3 a1.toNatClampNeg)) else none else some ((-1)))
set_option maxHeartbeats 4000000 in
set_option maxRecDepth 100000 in
theorem c_X8_space (l : Launch) (D : va_G) (cy : Nat → ClassId) (A : Nat → Nat) (X : va_W) (A0 : Nat → Prop) (v : Nat → Int32) (r : Nat → Nat → Int32) (a1 : Int32) (res : Int32) (hres : f_X8_space v r a1 = some res) : Met l yX8_space wsX8_space rm_X8_space (va_Pc [.ref (A 0), .int a1] (GW D (tyM cy) (pcM cy A v r ++ X) A0)) (QR (.int res)) 0 0 (fun _ => False) := by
  refine Met.ofW (cc := cX8_space) (maxL := 2) (ret := (some .int)) (by decide) rfl ?_
  intro p e s m args below meth c s₁ B hml hv
  obtain ⟨hargs, hP, hK, hD0, hN⟩ := hv
  have hx := B.exec
  have hb := B.bytes
  have hr := B.returns
  have hts := atoms_spec (ws := wsX8_space) B.pre
  have hown : s.vm.findClass RX8 = some m.cls := findClass_of_methodNamed B.named
  have hlocks := B.notSynchronized
  have hI : IW D (pcM cy A v r ++ X) A0 s.heap s.heap [] := ⟨hP, hD0, va_S.rf⟩
  have S : CallFix p m c cX8_space 2 s args wsX8_space RX8 := ⟨hx, hb, hml, hown, hts⟩
  have in8 : ∀ w ∈ wsX80, w ∈ wsX8_space := fun _ h => List.mem_cons_of_mem _ (List.mem_append_right _ h)
  have hl := lv_entry ([.ref (A 0), .int a1]) (n := 2) (Nat.le_of_ble_eq_true rfl)
  have hE : entryFrame m args 2 = F0 m 0 ((lg_sl ([.ref (A 0), .int a1]) ++ List.replicate (2 - (lg_sl ([.ref (A 0), .int a1])).length) Slot.unset).toArray) [] := by rw [hargs]; exact lg_entry_eq m [.ref (A 0), .int a1] 2
  rw [hE]
  generalize (lg_sl ([.ref (A 0), .int a1]) ++ List.replicate (2 - (lg_sl ([.ref (A 0), .int a1])).length) Slot.unset).toArray = ls at hl ⊢
  have hl : lv_has ls 2 [(0, .ref (A 0)), (1, .int a1)] := hl
  unfold f_X8_space at hres
  refine lv_aload_n hx hb dX8_space_0 rfl (lv_at hl 0 rfl) ?_
  refine lv_iload_n hx hb dX8_space_1 rfl (lv_at hl 1 rfl) ?_
  refine ro_v S (c_X8_isRoom l D cy A X A0 v r a1 _ rfl) (cwV 1 hts gX8_space_X8_isRoom rfl rfl rfl (by decide +kernel) ⟨Nat.le_of_ble_eq_true rfl, Nat.le_of_ble_eq_true rfl⟩) hI hK hN (ci := 7) rfl (atM_0) rfl rfl hl.1 rfl (Nat.le_of_ble_eq_true rfl) dX8_space_2 ⟨Nat.zero_le _, Nat.zero_le _⟩ ?_
  refine lv_if_eq (tgt := 17) hx hb dX8_space_5 (by decide) (fun c2 => ?_) (fun c2 => ?_)
  · replace hres := (if_neg (bI_f c2)).symm.trans hres
    refine lv_iconst (v := (-1)) hx hb dX8_space_17 (by decide) ?_
    obtain rfl := Option.some.inj hres
    exact W.iret hx hb hr (fun t ht hW => ⟨rfl, ht⟩) (fun _ h => absurd h List.not_mem_nil) dX8_space_18
  · replace hres := (if_pos (bI_t c2)).symm.trans hres
    refine lv_aload_n hx hb dX8_space_8 rfl (lv_at hl 0 rfl) ?_
    refine gM_spaceOf hx hb hts in8 hown hK hI (hts (.fieldLink RX8 19 "TrickHouseModel" "spaceOf" "[I") (by decide +kernel)) dX8_space_9 ?_
    refine lv_iload_n hx hb dX8_space_12 rfl (lv_at hl 1 rfl) ?_
    obtain ⟨g3, hres⟩ := gd hres
    refine th_ild hx hb hK hI 4 0 rfl rfl g3 dX8_space_13 ?_
    refine lv_goto (tgt := 18) hx hb dX8_space_14 (by decide) ?_
    obtain rfl := Option.some.inj hres
    exact W.iret hx hb hr (fun t ht hW => ⟨rfl, ht⟩) (fun _ h => absurd h List.not_mem_nil) dX8_space_18
abbrev rm_X8_cheer : Room := { frames := 1, cells := 0, slots := 0, locals := 22 }
def f_X8_cheer (v : Nat → Int32) (r : Nat → Nat → Int32) (a1 : Int32) (a2 : Int32) : Option (Int32 × ST) := (if (f_X8_isArticle v r a1) = true then (if (f_X8_within a2 (0 : Int32) (9 : Int32)) = true then if inR a1 6 = true then if inR a1 6 = true then some ((r 6 a1.toNatClampNeg), (v, (va_up r 6 (upd (r 6) a1.toNatClampNeg a2)))) else none else none else some ((-2), (v, r))) else some ((-1), (v, r)))
set_option maxHeartbeats 4000000 in
set_option maxRecDepth 100000 in
theorem c_X8_cheer (l : Launch) (D : va_G) (cy : Nat → ClassId) (A : Nat → Nat) (X : va_W) (A0 : Nat → Prop) (v : Nat → Int32) (r : Nat → Nat → Int32) (a1 : Int32) (a2 : Int32) (res : Int32) (v2 : Nat → Int32) (r2 : Nat → Nat → Int32) (hres : f_X8_cheer v r a1 a2 = some (res, (v2, r2))) : Met l yX8_cheer wsX8_cheer rm_X8_cheer (va_Pc [.ref (A 0), .int a1, .int a2] (GW D (tyM cy) (pcM cy A v r ++ X) A0)) (QW (some (.int res)) (GW D (tyM cy) (pcM cy A v2 r2 ++ X) A0) A0) 0 0 A0 := by
  refine Met.ofW (cc := cX8_cheer) (maxL := 4) (ret := (some .int)) (by decide) rfl ?_
  intro p e s m args below meth c s₁ B hml hv
  obtain ⟨hargs, hP, hK, hD0, hN⟩ := hv
  have hx := B.exec
  have hb := B.bytes
  have hr := B.returns
  have hts := atoms_spec (ws := wsX8_cheer) B.pre
  have hown : s.vm.findClass RX8 = some m.cls := findClass_of_methodNamed B.named
  have hlocks := B.notSynchronized
  have hI : IW D (pcM cy A v r ++ X) A0 s.heap s.heap [] := ⟨hP, hD0, va_S.rf⟩
  have S : CallFix p m c cX8_cheer 4 s args wsX8_cheer RX8 := ⟨hx, hb, hml, hown, hts⟩
  have in8 : ∀ w ∈ wsX80, w ∈ wsX8_cheer := fun _ h => List.mem_cons_of_mem _ (List.mem_append_right _ h)
  have hl := lv_entry ([.ref (A 0), .int a1, .int a2]) (n := 4) (Nat.le_of_ble_eq_true rfl)
  have hE : entryFrame m args 4 = F0 m 0 ((lg_sl ([.ref (A 0), .int a1, .int a2]) ++ List.replicate (4 - (lg_sl ([.ref (A 0), .int a1, .int a2])).length) Slot.unset).toArray) [] := by rw [hargs]; exact lg_entry_eq m [.ref (A 0), .int a1, .int a2] 4
  rw [hE]
  generalize (lg_sl ([.ref (A 0), .int a1, .int a2]) ++ List.replicate (4 - (lg_sl ([.ref (A 0), .int a1, .int a2])).length) Slot.unset).toArray = ls at hl ⊢
  have hl : lv_has ls 4 [(0, .ref (A 0)), (1, .int a1), (2, .int a2)] := hl
  unfold f_X8_cheer at hres
  refine lv_aload_n hx hb dX8_cheer_0 rfl (lv_at hl 0 rfl) ?_
  refine lv_iload_n hx hb dX8_cheer_1 rfl (lv_at hl 1 rfl) ?_
  refine ro_v S (c_X8_isArticle l D cy A X A0 v r a1 _ rfl) (cwV 1 hts gX8_cheer_X8_isArticle rfl rfl rfl (by decide +kernel) ⟨Nat.le_of_ble_eq_true rfl, Nat.le_of_ble_eq_true rfl⟩) hI hK hN (ci := 7) rfl (atM_0) rfl rfl hl.1 rfl (Nat.le_of_ble_eq_true rfl) dX8_cheer_2 ⟨Nat.zero_le _, Nat.zero_le _⟩ ?_
  refine lv_if_ne (tgt := 10) hx hb dX8_cheer_5 (by decide) (fun c2 => ?_) (fun c2 => ?_)
  · replace hres := (if_pos (bI_t c2)).symm.trans hres
    refine lv_iload_n hx hb dX8_cheer_10 rfl (lv_at hl 2 rfl) ?_
    refine lv_iconst (v := 0) hx hb dX8_cheer_11 (by decide) ?_
    refine lv_bipush (v := 9) hx hb dX8_cheer_12 (by decide) ?_
    refine pu_s S (c_X8_within l a2 (0 : Int32) (9 : Int32) _ rfl) (va_cwS 3 hts gX8_cheer_X8_within rfl rfl rfl (by decide +kernel) ⟨Nat.le_of_ble_eq_true rfl, Nat.le_of_ble_eq_true rfl⟩) hN rfl hl.1 rfl (Nat.le_of_ble_eq_true rfl) dX8_cheer_14 ⟨Nat.zero_le _, Nat.zero_le _⟩ ?_
    refine lv_if_ne (tgt := 23) hx hb dX8_cheer_17 (by decide) (fun c4 => ?_) (fun c4 => ?_)
    · replace hres := (if_pos (bI_t c4)).symm.trans hres
      refine lv_aload_n hx hb dX8_cheer_23 rfl (lv_at hl 0 rfl) ?_
      refine gM_gaiety hx hb hts in8 hown hK hI (hts (.fieldLink RX8 28 "TrickHouseModel" "gaiety" "[I") (by decide +kernel)) dX8_cheer_24 ?_
      refine lv_iload_n hx hb dX8_cheer_27 rfl (lv_at hl 1 rfl) ?_
      obtain ⟨g5, hres⟩ := gd hres
      refine th_ild hx hb hK hI 7 0 rfl rfl g5 dX8_cheer_28 ?_
      refine lv_istore_n (lv' := [(3, .int (r 6 a1.toNatClampNeg)), (0, .ref (A 0)), (1, .int a1), (2, .int a2)]) hx hb dX8_cheer_29 rfl hl (by decide) rfl (fun ls hl => ?_)
      refine lv_aload_n hx hb dX8_cheer_30 rfl (lv_at hl 1 rfl) ?_
      refine gM_gaiety hx hb hts in8 hown hK hI (hts (.fieldLink RX8 28 "TrickHouseModel" "gaiety" "[I") (by decide +kernel)) dX8_cheer_31 ?_
      refine lv_iload_n hx hb dX8_cheer_34 rfl (lv_at hl 2 rfl) ?_
      refine lv_iload_n hx hb dX8_cheer_35 rfl (lv_at hl 3 rfl) ?_
      obtain ⟨g6, hres⟩ := gd hres
      refine th_ist hx hb hK hI 7 0 rfl rfl g6 stM_r7 dX8_cheer_36 (fun H locs hI => ?_)
      refine lv_iload_n hx hb dX8_cheer_37 rfl (lv_at hl 0 rfl) ?_
      obtain ⟨rfl, rfl, rfl⟩ := pr3 hres
      exact W.iret hx hb hr (fun t ht hW => ⟨rfl, ⟨by rw [ht]; exact hI.1, va_K.moved hW.alike hK, hI.2.1, NW.warm hW hN⟩, hI.2.2.F ht⟩) hI.2.2.2.2 dX8_cheer_38
    · replace hres := (if_neg (bI_f c4)).symm.trans hres
      refine lv_bipush (v := (-2)) hx hb dX8_cheer_20 (by decide) ?_
      obtain ⟨rfl, rfl, rfl⟩ := pr3 hres
      exact W.iret hx hb hr (fun t ht hW => ⟨rfl, ⟨by rw [ht]; exact hI.1, va_K.moved hW.alike hK, hI.2.1, NW.warm hW hN⟩, hI.2.2.F ht⟩) hI.2.2.2.2 dX8_cheer_22
  · replace hres := (if_neg (bI_f c2)).symm.trans hres
    refine lv_iconst (v := (-1)) hx hb dX8_cheer_8 (by decide) ?_
    obtain ⟨rfl, rfl, rfl⟩ := pr3 hres
    exact W.iret hx hb hr (fun t ht hW => ⟨rfl, ⟨by rw [ht]; exact hI.1, va_K.moved hW.alike hK, hI.2.1, NW.warm hW hN⟩, hI.2.2.F ht⟩) hI.2.2.2.2 dX8_cheer_9
abbrev rm_X8_miss : Room := { frames := 1, cells := 0, slots := 0, locals := 22 }
def f_X8_miss (v : Nat → Int32) (r : Nat → Nat → Int32) (a1 : Int32) (a2 : Int32) : Option (Int32 × ST) := (if (f_X8_isArticle v r a1) = true then (if (f_X8_within a2 (0 : Int32) (49 : Int32)) = true then if inR a1 6 = true then if inR a1 6 = true then some ((r 7 a1.toNatClampNeg), (v, (va_up r 7 (upd (r 7) a1.toNatClampNeg a2)))) else none else none else some ((-2), (v, r))) else some ((-1), (v, r)))
set_option maxHeartbeats 4000000 in
set_option maxRecDepth 100000 in
theorem c_X8_miss (l : Launch) (D : va_G) (cy : Nat → ClassId) (A : Nat → Nat) (X : va_W) (A0 : Nat → Prop) (v : Nat → Int32) (r : Nat → Nat → Int32) (a1 : Int32) (a2 : Int32) (res : Int32) (v2 : Nat → Int32) (r2 : Nat → Nat → Int32) (hres : f_X8_miss v r a1 a2 = some (res, (v2, r2))) : Met l yX8_miss wsX8_miss rm_X8_miss (va_Pc [.ref (A 0), .int a1, .int a2] (GW D (tyM cy) (pcM cy A v r ++ X) A0)) (QW (some (.int res)) (GW D (tyM cy) (pcM cy A v2 r2 ++ X) A0) A0) 0 0 A0 := by
  refine Met.ofW (cc := cX8_miss) (maxL := 4) (ret := (some .int)) (by decide) rfl ?_
  intro p e s m args below meth c s₁ B hml hv
  obtain ⟨hargs, hP, hK, hD0, hN⟩ := hv
  have hx := B.exec
  have hb := B.bytes
  have hr := B.returns
  have hts := atoms_spec (ws := wsX8_miss) B.pre
  have hown : s.vm.findClass RX8 = some m.cls := findClass_of_methodNamed B.named
  have hlocks := B.notSynchronized
  have hI : IW D (pcM cy A v r ++ X) A0 s.heap s.heap [] := ⟨hP, hD0, va_S.rf⟩
  have S : CallFix p m c cX8_miss 4 s args wsX8_miss RX8 := ⟨hx, hb, hml, hown, hts⟩
  have in8 : ∀ w ∈ wsX80, w ∈ wsX8_miss := fun _ h => List.mem_cons_of_mem _ (List.mem_append_right _ h)
  have hl := lv_entry ([.ref (A 0), .int a1, .int a2]) (n := 4) (Nat.le_of_ble_eq_true rfl)
  have hE : entryFrame m args 4 = F0 m 0 ((lg_sl ([.ref (A 0), .int a1, .int a2]) ++ List.replicate (4 - (lg_sl ([.ref (A 0), .int a1, .int a2])).length) Slot.unset).toArray) [] := by rw [hargs]; exact lg_entry_eq m [.ref (A 0), .int a1, .int a2] 4
  rw [hE]
  generalize (lg_sl ([.ref (A 0), .int a1, .int a2]) ++ List.replicate (4 - (lg_sl ([.ref (A 0), .int a1, .int a2])).length) Slot.unset).toArray = ls at hl ⊢
  have hl : lv_has ls 4 [(0, .ref (A 0)), (1, .int a1), (2, .int a2)] := hl
  unfold f_X8_miss at hres
  refine lv_aload_n hx hb dX8_miss_0 rfl (lv_at hl 0 rfl) ?_
  refine lv_iload_n hx hb dX8_miss_1 rfl (lv_at hl 1 rfl) ?_
  refine ro_v S (c_X8_isArticle l D cy A X A0 v r a1 _ rfl) (cwV 1 hts gX8_miss_X8_isArticle rfl rfl rfl (by decide +kernel) ⟨Nat.le_of_ble_eq_true rfl, Nat.le_of_ble_eq_true rfl⟩) hI hK hN (ci := 7) rfl (atM_0) rfl rfl hl.1 rfl (Nat.le_of_ble_eq_true rfl) dX8_miss_2 ⟨Nat.zero_le _, Nat.zero_le _⟩ ?_
  refine lv_if_ne (tgt := 10) hx hb dX8_miss_5 (by decide) (fun c2 => ?_) (fun c2 => ?_)
  · replace hres := (if_pos (bI_t c2)).symm.trans hres
    refine lv_iload_n hx hb dX8_miss_10 rfl (lv_at hl 2 rfl) ?_
    refine lv_iconst (v := 0) hx hb dX8_miss_11 (by decide) ?_
    refine lv_bipush (v := 49) hx hb dX8_miss_12 (by decide) ?_
    refine pu_s S (c_X8_within l a2 (0 : Int32) (49 : Int32) _ rfl) (va_cwS 3 hts gX8_miss_X8_within rfl rfl rfl (by decide +kernel) ⟨Nat.le_of_ble_eq_true rfl, Nat.le_of_ble_eq_true rfl⟩) hN rfl hl.1 rfl (Nat.le_of_ble_eq_true rfl) dX8_miss_14 ⟨Nat.zero_le _, Nat.zero_le _⟩ ?_
    refine lv_if_ne (tgt := 23) hx hb dX8_miss_17 (by decide) (fun c4 => ?_) (fun c4 => ?_)
    · replace hres := (if_pos (bI_t c4)).symm.trans hres
      refine lv_aload_n hx hb dX8_miss_23 rfl (lv_at hl 0 rfl) ?_
      refine gM_longing hx hb hts in8 hown hK hI (hts (.fieldLink RX8 31 "TrickHouseModel" "longing" "[I") (by decide +kernel)) dX8_miss_24 ?_
      refine lv_iload_n hx hb dX8_miss_27 rfl (lv_at hl 1 rfl) ?_
      obtain ⟨g5, hres⟩ := gd hres
      refine th_ild hx hb hK hI 8 0 rfl rfl g5 dX8_miss_28 ?_
      refine lv_istore_n (lv' := [(3, .int (r 7 a1.toNatClampNeg)), (0, .ref (A 0)), (1, .int a1), (2, .int a2)]) hx hb dX8_miss_29 rfl hl (by decide) rfl (fun ls hl => ?_)
      refine lv_aload_n hx hb dX8_miss_30 rfl (lv_at hl 1 rfl) ?_
      refine gM_longing hx hb hts in8 hown hK hI (hts (.fieldLink RX8 31 "TrickHouseModel" "longing" "[I") (by decide +kernel)) dX8_miss_31 ?_
      refine lv_iload_n hx hb dX8_miss_34 rfl (lv_at hl 2 rfl) ?_
      refine lv_iload_n hx hb dX8_miss_35 rfl (lv_at hl 3 rfl) ?_
      obtain ⟨g6, hres⟩ := gd hres
      refine th_ist hx hb hK hI 8 0 rfl rfl g6 stM_r8 dX8_miss_36 (fun H locs hI => ?_)
      refine lv_iload_n hx hb dX8_miss_37 rfl (lv_at hl 0 rfl) ?_
      obtain ⟨rfl, rfl, rfl⟩ := pr3 hres
      exact W.iret hx hb hr (fun t ht hW => ⟨rfl, ⟨by rw [ht]; exact hI.1, va_K.moved hW.alike hK, hI.2.1, NW.warm hW hN⟩, hI.2.2.F ht⟩) hI.2.2.2.2 dX8_miss_38
    · replace hres := (if_neg (bI_f c4)).symm.trans hres
      refine lv_bipush (v := (-2)) hx hb dX8_miss_20 (by decide) ?_
      obtain ⟨rfl, rfl, rfl⟩ := pr3 hres
      exact W.iret hx hb hr (fun t ht hW => ⟨rfl, ⟨by rw [ht]; exact hI.1, va_K.moved hW.alike hK, hI.2.1, NW.warm hW hN⟩, hI.2.2.F ht⟩) hI.2.2.2.2 dX8_miss_22
  · replace hres := (if_neg (bI_f c2)).symm.trans hres
    refine lv_iconst (v := (-1)) hx hb dX8_miss_8 (by decide) ?_
    obtain ⟨rfl, rfl, rfl⟩ := pr3 hres
    exact W.iret hx hb hr (fun t ht hW => ⟨rfl, ⟨by rw [ht]; exact hI.1, va_K.moved hW.alike hK, hI.2.1, NW.warm hW hN⟩, hI.2.2.F ht⟩) hI.2.2.2.2 dX8_miss_9
abbrev rm_X8_widen : Room := { frames := 1, cells := 0, slots := 0, locals := 22 }
def f_X8_widen (v : Nat → Int32) (r : Nat → Nat → Int32) (a1 : Int32) (a2 : Int32) : Option (Int32 × ST) := (if (f_X8_isRoom v r a1) = true then (if (f_X8_within a2 (1 : Int32) (9 : Int32)) = true then if inR a1 4 = true then if inR a1 4 = true then some ((r 3 a1.toNatClampNeg), (v, (va_up r 3 (upd (r 3) a1.toNatClampNeg a2)))) else none else none else some ((-2), (v, r))) else some ((-1), (v, r)))
set_option maxHeartbeats 4000000 in
set_option maxRecDepth 100000 in
theorem c_X8_widen (l : Launch) (D : va_G) (cy : Nat → ClassId) (A : Nat → Nat) (X : va_W) (A0 : Nat → Prop) (v : Nat → Int32) (r : Nat → Nat → Int32) (a1 : Int32) (a2 : Int32) (res : Int32) (v2 : Nat → Int32) (r2 : Nat → Nat → Int32) (hres : f_X8_widen v r a1 a2 = some (res, (v2, r2))) : Met l yX8_widen wsX8_widen rm_X8_widen (va_Pc [.ref (A 0), .int a1, .int a2] (GW D (tyM cy) (pcM cy A v r ++ X) A0)) (QW (some (.int res)) (GW D (tyM cy) (pcM cy A v2 r2 ++ X) A0) A0) 0 0 A0 := by
  refine Met.ofW (cc := cX8_widen) (maxL := 4) (ret := (some .int)) (by decide) rfl ?_
  intro p e s m args below meth c s₁ B hml hv
  obtain ⟨hargs, hP, hK, hD0, hN⟩ := hv
  have hx := B.exec
  have hb := B.bytes
  have hr := B.returns
  have hts := atoms_spec (ws := wsX8_widen) B.pre
  have hown : s.vm.findClass RX8 = some m.cls := findClass_of_methodNamed B.named
  have hlocks := B.notSynchronized
  have hI : IW D (pcM cy A v r ++ X) A0 s.heap s.heap [] := ⟨hP, hD0, va_S.rf⟩
  have S : CallFix p m c cX8_widen 4 s args wsX8_widen RX8 := ⟨hx, hb, hml, hown, hts⟩
  have in8 : ∀ w ∈ wsX80, w ∈ wsX8_widen := fun _ h => List.mem_cons_of_mem _ (List.mem_append_right _ h)
  have hl := lv_entry ([.ref (A 0), .int a1, .int a2]) (n := 4) (Nat.le_of_ble_eq_true rfl)
  have hE : entryFrame m args 4 = F0 m 0 ((lg_sl ([.ref (A 0), .int a1, .int a2]) ++ List.replicate (4 - (lg_sl ([.ref (A 0), .int a1, .int a2])).length) Slot.unset).toArray) [] := by rw [hargs]; exact lg_entry_eq m [.ref (A 0), .int a1, .int a2] 4
  rw [hE]
  generalize (lg_sl ([.ref (A 0), .int a1, .int a2]) ++ List.replicate (4 - (lg_sl ([.ref (A 0), .int a1, .int a2])).length) Slot.unset).toArray = ls at hl ⊢
  have hl : lv_has ls 4 [(0, .ref (A 0)), (1, .int a1), (2, .int a2)] := hl
  unfold f_X8_widen at hres
  refine lv_aload_n hx hb dX8_widen_0 rfl (lv_at hl 0 rfl) ?_
  refine lv_iload_n hx hb dX8_widen_1 rfl (lv_at hl 1 rfl) ?_
  refine ro_v S (c_X8_isRoom l D cy A X A0 v r a1 _ rfl) (cwV 1 hts gX8_widen_X8_isRoom rfl rfl rfl (by decide +kernel) ⟨Nat.le_of_ble_eq_true rfl, Nat.le_of_ble_eq_true rfl⟩) hI hK hN (ci := 7) rfl (atM_0) rfl rfl hl.1 rfl (Nat.le_of_ble_eq_true rfl) dX8_widen_2 ⟨Nat.zero_le _, Nat.zero_le _⟩ ?_
  refine lv_if_ne (tgt := 10) hx hb dX8_widen_5 (by decide) (fun c2 => ?_) (fun c2 => ?_)
  · replace hres := (if_pos (bI_t c2)).symm.trans hres
    refine lv_iload_n hx hb dX8_widen_10 rfl (lv_at hl 2 rfl) ?_
    refine lv_iconst (v := 1) hx hb dX8_widen_11 (by decide) ?_
    refine lv_bipush (v := 9) hx hb dX8_widen_12 (by decide) ?_
    refine pu_s S (c_X8_within l a2 (1 : Int32) (9 : Int32) _ rfl) (va_cwS 3 hts gX8_widen_X8_within rfl rfl rfl (by decide +kernel) ⟨Nat.le_of_ble_eq_true rfl, Nat.le_of_ble_eq_true rfl⟩) hN rfl hl.1 rfl (Nat.le_of_ble_eq_true rfl) dX8_widen_14 ⟨Nat.zero_le _, Nat.zero_le _⟩ ?_
    refine lv_if_ne (tgt := 23) hx hb dX8_widen_17 (by decide) (fun c4 => ?_) (fun c4 => ?_)
    · replace hres := (if_pos (bI_t c4)).symm.trans hres
      refine lv_aload_n hx hb dX8_widen_23 rfl (lv_at hl 0 rfl) ?_
      refine gM_spaceOf hx hb hts in8 hown hK hI (hts (.fieldLink RX8 19 "TrickHouseModel" "spaceOf" "[I") (by decide +kernel)) dX8_widen_24 ?_
      refine lv_iload_n hx hb dX8_widen_27 rfl (lv_at hl 1 rfl) ?_
      obtain ⟨g5, hres⟩ := gd hres
      refine th_ild hx hb hK hI 4 0 rfl rfl g5 dX8_widen_28 ?_
      refine lv_istore_n (lv' := [(3, .int (r 3 a1.toNatClampNeg)), (0, .ref (A 0)), (1, .int a1), (2, .int a2)]) hx hb dX8_widen_29 rfl hl (by decide) rfl (fun ls hl => ?_)
      refine lv_aload_n hx hb dX8_widen_30 rfl (lv_at hl 1 rfl) ?_
      refine gM_spaceOf hx hb hts in8 hown hK hI (hts (.fieldLink RX8 19 "TrickHouseModel" "spaceOf" "[I") (by decide +kernel)) dX8_widen_31 ?_
      refine lv_iload_n hx hb dX8_widen_34 rfl (lv_at hl 2 rfl) ?_
      refine lv_iload_n hx hb dX8_widen_35 rfl (lv_at hl 3 rfl) ?_
      obtain ⟨g6, hres⟩ := gd hres
      refine th_ist hx hb hK hI 4 0 rfl rfl g6 stM_r4 dX8_widen_36 (fun H locs hI => ?_)
      refine lv_iload_n hx hb dX8_widen_37 rfl (lv_at hl 0 rfl) ?_
      obtain ⟨rfl, rfl, rfl⟩ := pr3 hres
      exact W.iret hx hb hr (fun t ht hW => ⟨rfl, ⟨by rw [ht]; exact hI.1, va_K.moved hW.alike hK, hI.2.1, NW.warm hW hN⟩, hI.2.2.F ht⟩) hI.2.2.2.2 dX8_widen_38
    · replace hres := (if_neg (bI_f c4)).symm.trans hres
      refine lv_bipush (v := (-2)) hx hb dX8_widen_20 (by decide) ?_
      obtain ⟨rfl, rfl, rfl⟩ := pr3 hres
      exact W.iret hx hb hr (fun t ht hW => ⟨rfl, ⟨by rw [ht]; exact hI.1, va_K.moved hW.alike hK, hI.2.1, NW.warm hW hN⟩, hI.2.2.F ht⟩) hI.2.2.2.2 dX8_widen_22
  · replace hres := (if_neg (bI_f c2)).symm.trans hres
    refine lv_iconst (v := (-1)) hx hb dX8_widen_8 (by decide) ?_
    obtain ⟨rfl, rfl, rfl⟩ := pr3 hres
    exact W.iret hx hb hr (fun t ht hW => ⟨rfl, ⟨by rw [ht]; exact hI.1, va_K.moved hW.alike hK, hI.2.1, NW.warm hW hN⟩, hI.2.2.F ht⟩) hI.2.2.2.2 dX8_widen_9
abbrev rm_X8_shift : Room := { frames := 2, cells := 0, slots := 0, locals := 42 }
def f_X8_shift (v : Nat → Int32) (r : Nat → Nat → Int32) (a1 : Int32) : Option (Int32 × ST) := (if (f_X8_isCorner a1) = true then (if (v 4) = 0 then some ((-3), (v, r)) else some ((v 2), ((upd v 2 a1), r))) else some ((-2), (v, r)))
set_option maxHeartbeats 4000000 in
set_option maxRecDepth 100000 in
theorem c_X8_shift (l : Launch) (D : va_G) (cy : Nat → ClassId) (A : Nat → Nat) (X : va_W) (A0 : Nat → Prop) (v : Nat → Int32) (r : Nat → Nat → Int32) (a1 : Int32) (res : Int32) (v2 : Nat → Int32) (r2 : Nat → Nat → Int32) (hres : f_X8_shift v r a1 = some (res, (v2, r2))) : Met l yX8_shift wsX8_shift rm_X8_shift (va_Pc [.ref (A 0), .int a1] (GW D (tyM cy) (pcM cy A v r ++ X) A0)) (QW (some (.int res)) (GW D (tyM cy) (pcM cy A v2 r2 ++ X) A0) A0) 0 0 A0 := by
  refine Met.ofW (cc := cX8_shift) (maxL := 3) (ret := (some .int)) (by decide) rfl ?_
  intro p e s m args below meth c s₁ B hml hv
  obtain ⟨hargs, hP, hK, hD0, hN⟩ := hv
  have hx := B.exec
  have hb := B.bytes
  have hr := B.returns
  have hts := atoms_spec (ws := wsX8_shift) B.pre
  have hown : s.vm.findClass RX8 = some m.cls := findClass_of_methodNamed B.named
  have hlocks := B.notSynchronized
  have hI : IW D (pcM cy A v r ++ X) A0 s.heap s.heap [] := ⟨hP, hD0, va_S.rf⟩
  have S : CallFix p m c cX8_shift 3 s args wsX8_shift RX8 := ⟨hx, hb, hml, hown, hts⟩
  have in8 : ∀ w ∈ wsX80, w ∈ wsX8_shift := fun _ h => List.mem_cons_of_mem _ (List.mem_append_right _ h)
  have hl := lv_entry ([.ref (A 0), .int a1]) (n := 3) (Nat.le_of_ble_eq_true rfl)
  have hE : entryFrame m args 3 = F0 m 0 ((lg_sl ([.ref (A 0), .int a1]) ++ List.replicate (3 - (lg_sl ([.ref (A 0), .int a1])).length) Slot.unset).toArray) [] := by rw [hargs]; exact lg_entry_eq m [.ref (A 0), .int a1] 3
  rw [hE]
  generalize (lg_sl ([.ref (A 0), .int a1]) ++ List.replicate (3 - (lg_sl ([.ref (A 0), .int a1])).length) Slot.unset).toArray = ls at hl ⊢
  have hl : lv_has ls 3 [(0, .ref (A 0)), (1, .int a1)] := hl
  unfold f_X8_shift at hres
  refine lv_iload_n hx hb dX8_shift_0 rfl (lv_at hl 1 rfl) ?_
  refine pu_s S (c_X8_isCorner l a1 _ rfl) (va_cwS 1 hts gX8_shift_X8_isCorner rfl rfl rfl (by decide +kernel) ⟨Nat.le_of_ble_eq_true rfl, Nat.le_of_ble_eq_true rfl⟩) hN rfl hl.1 rfl (Nat.le_of_ble_eq_true rfl) dX8_shift_1 ⟨Nat.zero_le _, Nat.zero_le _⟩ ?_
  refine lv_if_ne (tgt := 10) hx hb dX8_shift_4 (by decide) (fun c2 => ?_) (fun c2 => ?_)
  · replace hres := (if_pos (bI_t c2)).symm.trans hres
    refine lv_aload_n hx hb dX8_shift_10 rfl (lv_at hl 0 rfl) ?_
    refine gM_articles hx hb hts in8 hown hK hI (hts (.fieldLink RX8 74 "TrickHouseModel" "articles" "I") (by decide +kernel)) dX8_shift_11 ?_
    refine lv_if_ne (tgt := 20) hx hb dX8_shift_14 (by decide) (fun c3 => ?_) (fun c3 => ?_)
    · replace hres := (if_neg c3).symm.trans hres
      refine lv_aload_n hx hb dX8_shift_20 rfl (lv_at hl 0 rfl) ?_
      refine gM_stands hx hb hts in8 hown hK hI (hts (.fieldLink RX8 107 "TrickHouseModel" "stands" "I") (by decide +kernel)) dX8_shift_21 ?_
      refine lv_istore_n (lv' := [(2, .int (v 2)), (0, .ref (A 0)), (1, .int a1)]) hx hb dX8_shift_24 rfl hl (by decide) rfl (fun ls hl => ?_)
      refine lv_aload_n hx hb dX8_shift_25 rfl (lv_at hl 1 rfl) ?_
      refine lv_iload_n hx hb dX8_shift_26 rfl (lv_at hl 2 rfl) ?_
      refine pM_stands hx hb hts in8 hown hK hI (hts (.fieldLink RX8 107 "TrickHouseModel" "stands" "I") (by decide +kernel)) dX8_shift_27 (fun H locs hI => ?_)
      refine lv_iload_n hx hb dX8_shift_30 rfl (lv_at hl 0 rfl) ?_
      obtain ⟨rfl, rfl, rfl⟩ := pr3 hres
      exact W.iret hx hb hr (fun t ht hW => ⟨rfl, ⟨by rw [ht]; exact hI.1, va_K.moved hW.alike hK, hI.2.1, NW.warm hW hN⟩, hI.2.2.F ht⟩) hI.2.2.2.2 dX8_shift_31
    · replace hres := (if_pos c3).symm.trans hres
      refine lv_bipush (v := (-3)) hx hb dX8_shift_17 (by decide) ?_
      obtain ⟨rfl, rfl, rfl⟩ := pr3 hres
      exact W.iret hx hb hr (fun t ht hW => ⟨rfl, ⟨by rw [ht]; exact hI.1, va_K.moved hW.alike hK, hI.2.1, NW.warm hW hN⟩, hI.2.2.F ht⟩) hI.2.2.2.2 dX8_shift_19
  · replace hres := (if_neg (bI_f c2)).symm.trans hres
    refine lv_bipush (v := (-2)) hx hb dX8_shift_7 (by decide) ?_
    obtain ⟨rfl, rfl, rfl⟩ := pr3 hres
    exact W.iret hx hb hr (fun t ht hW => ⟨rfl, ⟨by rw [ht]; exact hI.1, va_K.moved hW.alike hK, hI.2.1, NW.warm hW hN⟩, hI.2.2.F ht⟩) hI.2.2.2.2 dX8_shift_9
abbrev rm_X8_companyOf : Room := { frames := 2, cells := 0, slots := 0, locals := 44 }
def f_X8_companyOf_23 (K4 : Int32 → Int32 → Option Int32) (v : Nat → Int32) (r : Nat → Nat → Int32) (a1 : Int32) : Nat → Int32 → Int32 → Int32 → Int32 → Int32 → Option Int32
  | 0, _, _, _, _, _ => none
  | n23 + 1, x2, x3, x4, x5, x6 => (if (v 4) ≤ x6 then K4 x5 (x3 + 1) else (if (f_X8_isOf x2 x6) = true then (f_X8_laughOf v r x6).bind (fun y6 => if inR x6 6 = true then (if (x4 - y6) < (r 7 x6.toNatClampNeg) then f_X8_companyOf_23 K4 v r a1 n23 x2 x3 x4 (x5 ||| 0) (x6 + 1) else f_X8_companyOf_23 K4 v r a1 n23 x2 x3 x4 (x5 ||| ((1 : Int32) <<< (x6 &&& 31))) (x6 + 1)) else none) else f_X8_companyOf_23 K4 v r a1 n23 x2 x3 x4 (x5 ||| 0) (x6 + 1)))
theorem f_X8_companyOf_23_s (K4 : Int32 → Int32 → Option Int32) (v : Nat → Int32) (r : Nat → Nat → Int32) (a1 : Int32) (n23 : Nat) (x2 : Int32) (x3 : Int32) (x4 : Int32) (x5 : Int32) (x6 : Int32) : f_X8_companyOf_23 K4 v r a1 (n23 + 1) x2 x3 x4 x5 x6 = (if (v 4) ≤ x6 then K4 x5 (x3 + 1) else (if (f_X8_isOf x2 x6) = true then (f_X8_laughOf v r x6).bind (fun y6 => if inR x6 6 = true then (if (x4 - y6) < (r 7 x6.toNatClampNeg) then f_X8_companyOf_23 K4 v r a1 n23 x2 x3 x4 (x5 ||| 0) (x6 + 1) else f_X8_companyOf_23 K4 v r a1 n23 x2 x3 x4 (x5 ||| ((1 : Int32) <<< (x6 &&& 31))) (x6 + 1)) else none) else f_X8_companyOf_23 K4 v r a1 n23 x2 x3 x4 (x5 ||| 0) (x6 + 1))) := rfl
def f_X8_companyOf_4 (v : Nat → Int32) (r : Nat → Nat → Int32) (a1 : Int32) : Nat → Int32 → Int32 → Option Int32
  | 0, _, _ => none
  | n4 + 1, x2, x3 => (if 6 ≤ x3 then some (x2) else (f_X8_laughsOf v r x2).bind (fun y2 => f_X8_companyOf_23 (fun z0 z1 => f_X8_companyOf_4 v r a1 n4 z0 z1) v r a1 80 x2 x3 y2 (0 : Int32) (0 : Int32)))
theorem f_X8_companyOf_4_s (v : Nat → Int32) (r : Nat → Nat → Int32) (a1 : Int32) (n4 : Nat) (x2 : Int32) (x3 : Int32) : f_X8_companyOf_4 v r a1 (n4 + 1) x2 x3 = (if 6 ≤ x3 then some (x2) else (f_X8_laughsOf v r x2).bind (fun y2 => f_X8_companyOf_23 (fun z0 z1 => f_X8_companyOf_4 v r a1 n4 z0 z1) v r a1 80 x2 x3 y2 (0 : Int32) (0 : Int32))) := rfl
def f_X8_companyOf (v : Nat → Int32) (r : Nat → Nat → Int32) (a1 : Int32) : Option Int32 := f_X8_companyOf_4 v r a1 80 a1 (0 : Int32)
set_option maxHeartbeats 4000000 in
set_option maxRecDepth 100000 in
theorem c_X8_companyOf (l : Launch) (D : va_G) (cy : Nat → ClassId) (A : Nat → Nat) (X : va_W) (A0 : Nat → Prop) (v : Nat → Int32) (r : Nat → Nat → Int32) (a1 : Int32) (res : Int32) (hres : f_X8_companyOf v r a1 = some res) : Met l yX8_companyOf wsX8_companyOf rm_X8_companyOf (va_Pc [.ref (A 0), .int a1] (GW D (tyM cy) (pcM cy A v r ++ X) A0)) (QR (.int res)) 0 0 (fun _ => False) := by
  refine Met.ofW (cc := cX8_companyOf) (maxL := 7) (ret := (some .int)) (by decide) rfl ?_
  intro p e s m args below meth c s₁ B hml hv
  obtain ⟨hargs, hP, hK, hD0, hN⟩ := hv
  have hx := B.exec
  have hb := B.bytes
  have hr := B.returns
  have hts := atoms_spec (ws := wsX8_companyOf) B.pre
  have hown : s.vm.findClass RX8 = some m.cls := findClass_of_methodNamed B.named
  have hlocks := B.notSynchronized
  have hI : IW D (pcM cy A v r ++ X) A0 s.heap s.heap [] := ⟨hP, hD0, va_S.rf⟩
  have S : CallFix p m c cX8_companyOf 7 s args wsX8_companyOf RX8 := ⟨hx, hb, hml, hown, hts⟩
  have in8 : ∀ w ∈ wsX80, w ∈ wsX8_companyOf := fun _ h => List.mem_cons_of_mem _ (List.mem_append_right _ h)
  have hl := lv_entry ([.ref (A 0), .int a1]) (n := 7) (Nat.le_of_ble_eq_true rfl)
  have hE : entryFrame m args 7 = F0 m 0 ((lg_sl ([.ref (A 0), .int a1]) ++ List.replicate (7 - (lg_sl ([.ref (A 0), .int a1])).length) Slot.unset).toArray) [] := by rw [hargs]; exact lg_entry_eq m [.ref (A 0), .int a1] 7
  rw [hE]
  generalize (lg_sl ([.ref (A 0), .int a1]) ++ List.replicate (7 - (lg_sl ([.ref (A 0), .int a1])).length) Slot.unset).toArray = ls at hl ⊢
  have hl : lv_has ls 7 [(0, .ref (A 0)), (1, .int a1)] := hl
  unfold f_X8_companyOf at hres
  refine lv_iload_n hx hb dX8_companyOf_0 rfl (lv_at hl 1 rfl) ?_
  refine lv_istore_n (lv' := [(2, .int a1), (0, .ref (A 0)), (1, .int a1)]) hx hb dX8_companyOf_1 rfl hl (by decide) rfl (fun ls hl => ?_)
  refine lv_iconst (v := 0) hx hb dX8_companyOf_2 (by decide) ?_
  refine lv_istore_n (lv' := [(3, .int 0), (2, .int a1), (0, .ref (A 0)), (1, .int a1)]) hx hb dX8_companyOf_3 rfl hl (by decide) rfl (fun ls hl => ?_)
  have w4 : ∀ (n4 : Nat) (x2 : Int32) (x3 : Int32), f_X8_companyOf_4 v r a1 n4 x2 x3 = some res → ∀ ls : Array Slot, lv_has ls 7 [(2, .int x2), (3, .int x3), (0, .ref (A 0))] → W p l e (headSpec wsX8_companyOf rm_X8_companyOf).room s m args below meth c s.heap [] 0 0 (MQ below (QR (.int res)) args s 0 0 (fun _ => False)) (F0 m 4 ls []) := by
    intro n4
    induction n4 with
    | zero =>
      intro x2 x3  hres
      have hres : (none : Option Int32) = some res := hres
      cases hres
    | succ n4 ih4 =>
      intro x2 x3  hres ls hl
      replace hres := (f_X8_companyOf_4_s v r a1 n4 x2 x3).symm.trans hres
      refine lv_iload_n hx hb dX8_companyOf_4 rfl (lv_at hl 1 rfl) ?_
      refine lv_bipush (v := 6) hx hb dX8_companyOf_5 (by decide) ?_
      refine lv_icmp_ge (tgt := 88) hx hb dX8_companyOf_7 (by decide) (fun c1 => ?_) (fun c1 => ?_)
      · replace hres := (if_pos c1).symm.trans hres
        refine lv_iload_n hx hb dX8_companyOf_88 rfl (lv_at hl 0 rfl) ?_
        obtain rfl := Option.some.inj hres
        exact W.iret hx hb hr (fun t ht hW => ⟨rfl, ht⟩) (fun _ h => absurd h List.not_mem_nil) dX8_companyOf_89
      · replace hres := (if_neg c1).symm.trans hres
        refine lv_aload_n hx hb dX8_companyOf_10 rfl (lv_at hl 2 rfl) ?_
        refine lv_iload_n hx hb dX8_companyOf_11 rfl (lv_at hl 0 rfl) ?_
        obtain ⟨y2, e2, hres⟩ := bd hres
        refine ro_v S (c_X8_laughsOf l D cy A X A0 v r x2 y2 e2) (cwV 1 hts gX8_companyOf_X8_laughsOf rfl rfl rfl (by decide +kernel) ⟨Nat.le_of_ble_eq_true rfl, Nat.le_of_ble_eq_true rfl⟩) hI hK hN (ci := 7) rfl (atM_0) rfl rfl hl.1 rfl (Nat.le_of_ble_eq_true rfl) dX8_companyOf_12 ⟨Nat.zero_le _, Nat.zero_le _⟩ ?_
        refine lv_istore (lv' := [(4, .int y2), (2, .int x2), (3, .int x3), (0, .ref (A 0))]) hx hb dX8_companyOf_15 hl (by decide) rfl (fun ls hl => ?_)
        refine lv_iconst (v := 0) hx hb dX8_companyOf_17 (by decide) ?_
        refine lv_istore (lv' := [(5, .int 0), (4, .int y2), (2, .int x2), (3, .int x3), (0, .ref (A 0))]) hx hb dX8_companyOf_18 hl (by decide) rfl (fun ls hl => ?_)
        refine lv_iconst (v := 0) hx hb dX8_companyOf_20 (by decide) ?_
        refine lv_istore (lv' := [(6, .int 0), (5, .int 0), (4, .int y2), (2, .int x2), (3, .int x3), (0, .ref (A 0))]) hx hb dX8_companyOf_21 hl (by decide) rfl (fun ls hl => ?_)
        have w23 : ∀ (n23 : Nat) (x2 : Int32) (x3 : Int32) (x4 : Int32) (x5 : Int32) (x6 : Int32), f_X8_companyOf_23 (fun z0 z1 => f_X8_companyOf_4 v r a1 n4 z0 z1) v r a1 n23 x2 x3 x4 x5 x6 = some res → ∀ ls : Array Slot, lv_has ls 7 [(2, .int x2), (3, .int x3), (4, .int x4), (5, .int x5), (6, .int x6), (0, .ref (A 0))] → W p l e (headSpec wsX8_companyOf rm_X8_companyOf).room s m args below meth c s.heap [] 0 0 (MQ below (QR (.int res)) args s 0 0 (fun _ => False)) (F0 m 23 ls []) := by
          intro n23
          induction n23 with
          | zero =>
            intro x2 x3 x4 x5 x6  hres
            have hres : (none : Option Int32) = some res := hres
            cases hres
          | succ n23 ih23 =>
            intro x2 x3 x4 x5 x6  hres ls hl
            replace hres := (f_X8_companyOf_23_s (fun z0 z1 => f_X8_companyOf_4 v r a1 n4 z0 z1) v r a1 n23 x2 x3 x4 x5 x6).symm.trans hres
            try dsimp only at hres
            refine lv_iload hx hb dX8_companyOf_23 (lv_at hl 4 rfl) ?_
            refine lv_aload_n hx hb dX8_companyOf_25 rfl (lv_at hl 5 rfl) ?_
            refine gM_articles hx hb hts in8 hown hK hI (hts (.fieldLink RX8 74 "TrickHouseModel" "articles" "I") (by decide +kernel)) dX8_companyOf_26 ?_
            refine lv_icmp_ge (tgt := 79) hx hb dX8_companyOf_29 (by decide) (fun c3 => ?_) (fun c3 => ?_)
            · replace hres := (if_pos c3).symm.trans hres
              refine lv_iload hx hb dX8_companyOf_79 (lv_at hl 3 rfl) ?_
              refine lv_istore_n (lv' := [(2, .int x5), (3, .int x3), (4, .int x4), (5, .int x5), (6, .int x6), (0, .ref (A 0))]) hx hb dX8_companyOf_81 rfl hl (by decide) rfl (fun ls hl => ?_)
              refine lv_iinc (v := (x3 + 1)) (lv' := [(3, .int (x3 + 1)), (2, .int x5), (4, .int x4), (5, .int x5), (6, .int x6), (0, .ref (A 0))]) hx hb dX8_companyOf_82 hl (k := 1) rfl rfl (by decide) rfl (fun ls hl => ?_)
              refine lv_goto (tgt := 4) hx hb dX8_companyOf_85 (by decide) ?_
              exact ih4 x5 (x3 + 1) hres ls (lv_sub hl [1, 0, 5] rfl)
            · replace hres := (if_neg c3).symm.trans hres
              refine lv_iload hx hb dX8_companyOf_32 (lv_at hl 3 rfl) ?_
              refine lv_iload_n hx hb dX8_companyOf_34 rfl (lv_at hl 0 rfl) ?_
              refine lv_iload hx hb dX8_companyOf_35 (lv_at hl 4 rfl) ?_
              refine pu_s S (c_X8_isOf l x2 x6 _ rfl) (va_cwS 2 hts gX8_companyOf_X8_isOf rfl rfl rfl (by decide +kernel) ⟨Nat.le_of_ble_eq_true rfl, Nat.le_of_ble_eq_true rfl⟩) hN rfl hl.1 rfl (Nat.le_of_ble_eq_true rfl) dX8_companyOf_37 ⟨Nat.zero_le _, Nat.zero_le _⟩ ?_
              refine lv_if_eq (tgt := 69) hx hb dX8_companyOf_40 (by decide) (fun c5 => ?_) (fun c5 => ?_)
              · replace hres := (if_neg (bI_f c5)).symm.trans hres
                refine lv_iconst (v := 0) hx hb dX8_companyOf_69 (by decide) ?_
                refine lv_ior hx hb dX8_companyOf_70 ?_
                refine lv_istore (lv' := [(5, .int (x5 ||| 0)), (2, .int x2), (3, .int x3), (4, .int x4), (6, .int x6), (0, .ref (A 0))]) hx hb dX8_companyOf_71 hl (by decide) rfl (fun ls hl => ?_)
                refine lv_iinc (v := (x6 + 1)) (lv' := [(6, .int (x6 + 1)), (5, .int (x5 ||| 0)), (2, .int x2), (3, .int x3), (4, .int x4), (0, .ref (A 0))]) hx hb dX8_companyOf_73 hl (k := 4) rfl rfl (by decide) rfl (fun ls hl => ?_)
                refine lv_goto (tgt := 23) hx hb dX8_companyOf_76 (by decide) ?_
                exact ih23 x2 x3 x4 (x5 ||| 0) (x6 + 1) hres ls (lv_sub hl [2, 3, 4, 1, 0, 5] rfl)
              · replace hres := (if_pos (bI_t c5)).symm.trans hres
                refine lv_iload hx hb dX8_companyOf_43 (lv_at hl 2 rfl) ?_
                refine lv_aload_n hx hb dX8_companyOf_45 rfl (lv_at hl 5 rfl) ?_
                refine lv_iload hx hb dX8_companyOf_46 (lv_at hl 4 rfl) ?_
                obtain ⟨y6, e6, hres⟩ := bd hres
                refine ro_v S (c_X8_laughOf l D cy A X A0 v r x6 y6 e6) (cwV 1 hts gX8_companyOf_X8_laughOf rfl rfl rfl (by decide +kernel) ⟨Nat.le_of_ble_eq_true rfl, Nat.le_of_ble_eq_true rfl⟩) hI hK hN (ci := 7) rfl (atM_0) rfl rfl hl.1 rfl (Nat.le_of_ble_eq_true rfl) dX8_companyOf_48 ⟨Nat.zero_le _, Nat.zero_le _⟩ ?_
                refine lv_isub hx hb dX8_companyOf_51 ?_
                refine lv_aload_n hx hb dX8_companyOf_52 rfl (lv_at hl 5 rfl) ?_
                refine gM_longing hx hb hts in8 hown hK hI (hts (.fieldLink RX8 31 "TrickHouseModel" "longing" "[I") (by decide +kernel)) dX8_companyOf_53 ?_
                refine lv_iload hx hb dX8_companyOf_56 (lv_at hl 4 rfl) ?_
                obtain ⟨g7, hres⟩ := gd hres
                refine th_ild hx hb hK hI 8 0 rfl rfl g7 dX8_companyOf_58 ?_
                refine lv_icmp_lt (tgt := 69) hx hb dX8_companyOf_59 (by decide) (fun c8 => ?_) (fun c8 => ?_)
                · replace hres := (if_pos c8).symm.trans hres
                  refine lv_iconst (v := 0) hx hb dX8_companyOf_69 (by decide) ?_
                  refine lv_ior hx hb dX8_companyOf_70 ?_
                  refine lv_istore (lv' := [(5, .int (x5 ||| 0)), (2, .int x2), (3, .int x3), (4, .int x4), (6, .int x6), (0, .ref (A 0))]) hx hb dX8_companyOf_71 hl (by decide) rfl (fun ls hl => ?_)
                  refine lv_iinc (v := (x6 + 1)) (lv' := [(6, .int (x6 + 1)), (5, .int (x5 ||| 0)), (2, .int x2), (3, .int x3), (4, .int x4), (0, .ref (A 0))]) hx hb dX8_companyOf_73 hl (k := 4) rfl rfl (by decide) rfl (fun ls hl => ?_)
                  refine lv_goto (tgt := 23) hx hb dX8_companyOf_76 (by decide) ?_
                  exact ih23 x2 x3 x4 (x5 ||| 0) (x6 + 1) hres ls (lv_sub hl [2, 3, 4, 1, 0, 5] rfl)
                · replace hres := (if_neg c8).symm.trans hres
                  refine lv_iconst (v := 1) hx hb dX8_companyOf_62 (by decide) ?_
                  refine lv_iload hx hb dX8_companyOf_63 (lv_at hl 4 rfl) ?_
                  refine lv_ishl hx hb dX8_companyOf_65 ?_
                  refine lv_goto (tgt := 70) hx hb dX8_companyOf_66 (by decide) ?_
                  refine lv_ior hx hb dX8_companyOf_70 ?_
                  refine lv_istore (lv' := [(5, .int (x5 ||| ((1 : Int32) <<< (x6 &&& 31)))), (2, .int x2), (3, .int x3), (4, .int x4), (6, .int x6), (0, .ref (A 0))]) hx hb dX8_companyOf_71 hl (by decide) rfl (fun ls hl => ?_)
                  refine lv_iinc (v := (x6 + 1)) (lv' := [(6, .int (x6 + 1)), (5, .int (x5 ||| ((1 : Int32) <<< (x6 &&& 31)))), (2, .int x2), (3, .int x3), (4, .int x4), (0, .ref (A 0))]) hx hb dX8_companyOf_73 hl (k := 4) rfl rfl (by decide) rfl (fun ls hl => ?_)
                  refine lv_goto (tgt := 23) hx hb dX8_companyOf_76 (by decide) ?_
                  exact ih23 x2 x3 x4 (x5 ||| ((1 : Int32) <<< (x6 &&& 31))) (x6 + 1) hres ls (lv_sub hl [2, 3, 4, 1, 0, 5] rfl)
        exact w23 80 x2 x3 y2 (0 : Int32) (0 : Int32) hres ls (lv_sub hl [3, 4, 2, 1, 0, 5] rfl)
  exact w4 80 a1 (0 : Int32) hres ls (lv_sub hl [1, 0, 2] rfl)
abbrev rm_X8_there : Room := { frames := 0, cells := 0, slots := 0, locals := 0 }
def f_X8_there (v : Nat → Int32) (r : Nat → Nat → Int32) : Int32 := (if (v 4) = 0 then ((-3)) else ((v 5)))
set_option maxHeartbeats 4000000 in
set_option maxRecDepth 100000 in
theorem c_X8_there (l : Launch) (D : va_G) (cy : Nat → ClassId) (A : Nat → Nat) (X : va_W) (A0 : Nat → Prop) (v : Nat → Int32) (r : Nat → Nat → Int32) (res : Int32) (hres : f_X8_there v r = res) : Met l yX8_there wsX8_there rm_X8_there (va_Pc [.ref (A 0)] (GW D (tyM cy) (pcM cy A v r ++ X) A0)) (QR (.int res)) 0 0 (fun _ => False) := by
  refine Met.ofW (cc := cX8_there) (maxL := 1) (ret := (some .int)) (by decide) rfl ?_
  intro p e s m args below meth c s₁ B hml hv
  obtain ⟨hargs, hP, hK, hD0, hN⟩ := hv
  have hx := B.exec
  have hb := B.bytes
  have hr := B.returns
  have hts := atoms_spec (ws := wsX8_there) B.pre
  have hown : s.vm.findClass RX8 = some m.cls := findClass_of_methodNamed B.named
  have hlocks := B.notSynchronized
  have hI : IW D (pcM cy A v r ++ X) A0 s.heap s.heap [] := ⟨hP, hD0, va_S.rf⟩
  have in8 : ∀ w ∈ wsX80, w ∈ wsX8_there := fun _ h => List.mem_cons_of_mem _ (List.mem_append_right _ h)
  have hl := lv_entry ([.ref (A 0)]) (n := 1) (Nat.le_of_ble_eq_true rfl)
  have hE : entryFrame m args 1 = F0 m 0 ((lg_sl ([.ref (A 0)]) ++ List.replicate (1 - (lg_sl ([.ref (A 0)])).length) Slot.unset).toArray) [] := by rw [hargs]; exact lg_entry_eq m [.ref (A 0)] 1
  rw [hE]
  generalize (lg_sl ([.ref (A 0)]) ++ List.replicate (1 - (lg_sl ([.ref (A 0)])).length) Slot.unset).toArray = ls at hl ⊢
  have hl : lv_has ls 1 [(0, .ref (A 0))] := hl
  unfold f_X8_there at hres
  refine lv_aload_n hx hb dX8_there_0 rfl (lv_at hl 0 rfl) ?_
  refine gM_articles hx hb hts in8 hown hK hI (hts (.fieldLink RX8 74 "TrickHouseModel" "articles" "I") (by decide +kernel)) dX8_there_1 ?_
  refine lv_if_ne (tgt := 12) hx hb dX8_there_4 (by decide) (fun c1 => ?_) (fun c1 => ?_)
  · replace hres := (if_neg c1).symm.trans hres
    refine lv_aload_n hx hb dX8_there_12 rfl (lv_at hl 0 rfl) ?_
    refine gM_thereNow hx hb hts in8 hown hK hI (hts (.fieldLink RX8 116 "TrickHouseModel" "thereNow" "I") (by decide +kernel)) dX8_there_13 ?_
    obtain rfl := hres
    exact W.iret hx hb hr (fun t ht hW => ⟨rfl, ht⟩) (fun _ h => absurd h List.not_mem_nil) dX8_there_16
  · replace hres := (if_pos c1).symm.trans hres
    refine lv_bipush (v := (-3)) hx hb dX8_there_7 (by decide) ?_
    refine lv_goto (tgt := 16) hx hb dX8_there_9 (by decide) ?_
    obtain rfl := hres
    exact W.iret hx hb hr (fun t ht hW => ⟨rfl, ht⟩) (fun _ h => absurd h List.not_mem_nil) dX8_there_16
abbrev rm_X8_company : Room := { frames := 3, cells := 0, slots := 0, locals := 70 }
def f_X8_company (v : Nat → Int32) (r : Nat → Nat → Int32) (a1 : Int32) : Option Int32 := (if (v 4) = 0 then some ((-3)) else (if (f_X8_isSet v r a1) = true then (f_X8_companyOf v r a1).bind (fun y4 => some (y4)) else some ((-2))))
set_option maxHeartbeats 4000000 in
set_option maxRecDepth 100000 in
theorem c_X8_company (l : Launch) (D : va_G) (cy : Nat → ClassId) (A : Nat → Nat) (X : va_W) (A0 : Nat → Prop) (v : Nat → Int32) (r : Nat → Nat → Int32) (a1 : Int32) (res : Int32) (hres : f_X8_company v r a1 = some res) : Met l yX8_company wsX8_company rm_X8_company (va_Pc [.ref (A 0), .int a1] (GW D (tyM cy) (pcM cy A v r ++ X) A0)) (QR (.int res)) 0 0 (fun _ => False) := by
  refine Met.ofW (cc := cX8_company) (maxL := 2) (ret := (some .int)) (by decide) rfl ?_
  intro p e s m args below meth c s₁ B hml hv
  obtain ⟨hargs, hP, hK, hD0, hN⟩ := hv
  have hx := B.exec
  have hb := B.bytes
  have hr := B.returns
  have hts := atoms_spec (ws := wsX8_company) B.pre
  have hown : s.vm.findClass RX8 = some m.cls := findClass_of_methodNamed B.named
  have hlocks := B.notSynchronized
  have hI : IW D (pcM cy A v r ++ X) A0 s.heap s.heap [] := ⟨hP, hD0, va_S.rf⟩
  have S : CallFix p m c cX8_company 2 s args wsX8_company RX8 := ⟨hx, hb, hml, hown, hts⟩
  have in8 : ∀ w ∈ wsX80, w ∈ wsX8_company := fun _ h => List.mem_cons_of_mem _ (List.mem_append_right _ h)
  have hl := lv_entry ([.ref (A 0), .int a1]) (n := 2) (Nat.le_of_ble_eq_true rfl)
  have hE : entryFrame m args 2 = F0 m 0 ((lg_sl ([.ref (A 0), .int a1]) ++ List.replicate (2 - (lg_sl ([.ref (A 0), .int a1])).length) Slot.unset).toArray) [] := by rw [hargs]; exact lg_entry_eq m [.ref (A 0), .int a1] 2
  rw [hE]
  generalize (lg_sl ([.ref (A 0), .int a1]) ++ List.replicate (2 - (lg_sl ([.ref (A 0), .int a1])).length) Slot.unset).toArray = ls at hl ⊢
  have hl : lv_has ls 2 [(0, .ref (A 0)), (1, .int a1)] := hl
  unfold f_X8_company at hres
  refine lv_aload_n hx hb dX8_company_0 rfl (lv_at hl 0 rfl) ?_
  refine gM_articles hx hb hts in8 hown hK hI (hts (.fieldLink RX8 74 "TrickHouseModel" "articles" "I") (by decide +kernel)) dX8_company_1 ?_
  refine lv_if_ne (tgt := 10) hx hb dX8_company_4 (by decide) (fun c1 => ?_) (fun c1 => ?_)
  · replace hres := (if_neg c1).symm.trans hres
    refine lv_aload_n hx hb dX8_company_10 rfl (lv_at hl 0 rfl) ?_
    refine lv_iload_n hx hb dX8_company_11 rfl (lv_at hl 1 rfl) ?_
    refine ro_v S (c_X8_isSet l D cy A X A0 v r a1 _ rfl) (cwV 1 hts gX8_company_X8_isSet rfl rfl rfl (by decide +kernel) ⟨Nat.le_of_ble_eq_true rfl, Nat.le_of_ble_eq_true rfl⟩) hI hK hN (ci := 7) rfl (atM_0) rfl rfl hl.1 rfl (Nat.le_of_ble_eq_true rfl) dX8_company_12 ⟨Nat.zero_le _, Nat.zero_le _⟩ ?_
    refine lv_if_eq (tgt := 26) hx hb dX8_company_15 (by decide) (fun c3 => ?_) (fun c3 => ?_)
    · replace hres := (if_neg (bI_f c3)).symm.trans hres
      refine lv_bipush (v := (-2)) hx hb dX8_company_26 (by decide) ?_
      obtain rfl := Option.some.inj hres
      exact W.iret hx hb hr (fun t ht hW => ⟨rfl, ht⟩) (fun _ h => absurd h List.not_mem_nil) dX8_company_28
    · replace hres := (if_pos (bI_t c3)).symm.trans hres
      refine lv_aload_n hx hb dX8_company_18 rfl (lv_at hl 0 rfl) ?_
      refine lv_iload_n hx hb dX8_company_19 rfl (lv_at hl 1 rfl) ?_
      obtain ⟨y4, e4, hres⟩ := bd hres
      refine ro_v S (c_X8_companyOf l D cy A X A0 v r a1 y4 e4) (cwV 1 hts gX8_company_X8_companyOf rfl rfl rfl (by decide +kernel) ⟨Nat.le_of_ble_eq_true rfl, Nat.le_of_ble_eq_true rfl⟩) hI hK hN (ci := 7) rfl (atM_0) rfl rfl hl.1 rfl (Nat.le_of_ble_eq_true rfl) dX8_company_20 ⟨Nat.zero_le _, Nat.zero_le _⟩ ?_
      refine lv_goto (tgt := 28) hx hb dX8_company_23 (by decide) ?_
      obtain rfl := Option.some.inj hres
      exact W.iret hx hb hr (fun t ht hW => ⟨rfl, ht⟩) (fun _ h => absurd h List.not_mem_nil) dX8_company_28
  · replace hres := (if_pos c1).symm.trans hres
    refine lv_bipush (v := (-3)) hx hb dX8_company_7 (by decide) ?_
    obtain rfl := Option.some.inj hres
    exact W.iret hx hb hr (fun t ht hW => ⟨rfl, ht⟩) (fun _ h => absurd h List.not_mem_nil) dX8_company_9
abbrev rm_X8_comes : Room := { frames := 3, cells := 0, slots := 0, locals := 70 }
def f_X8_comes (v : Nat → Int32) (r : Nat → Nat → Int32) (a1 : Int32) : Option (Int32 × ST) := (f_X8_companyOf v r a1).bind (fun y1 => some ((a1 &&& (((upd v 5 y1) 5) ^^^ (-1))), ((upd v 5 y1), r)))
set_option maxHeartbeats 4000000 in
set_option maxRecDepth 100000 in
theorem c_X8_comes (l : Launch) (D : va_G) (cy : Nat → ClassId) (A : Nat → Nat) (X : va_W) (A0 : Nat → Prop) (v : Nat → Int32) (r : Nat → Nat → Int32) (a1 : Int32) (res : Int32) (v2 : Nat → Int32) (r2 : Nat → Nat → Int32) (hres : f_X8_comes v r a1 = some (res, (v2, r2))) : Met l yX8_comes wsX8_comes rm_X8_comes (va_Pc [.ref (A 0), .int a1] (GW D (tyM cy) (pcM cy A v r ++ X) A0)) (QW (some (.int res)) (GW D (tyM cy) (pcM cy A v2 r2 ++ X) A0) A0) 0 0 A0 := by
  refine Met.ofW (cc := cX8_comes) (maxL := 2) (ret := (some .int)) (by decide) rfl ?_
  intro p e s m args below meth c s₁ B hml hv
  obtain ⟨hargs, hP, hK, hD0, hN⟩ := hv
  have hx := B.exec
  have hb := B.bytes
  have hr := B.returns
  have hts := atoms_spec (ws := wsX8_comes) B.pre
  have hown : s.vm.findClass RX8 = some m.cls := findClass_of_methodNamed B.named
  have hlocks := B.notSynchronized
  have hI : IW D (pcM cy A v r ++ X) A0 s.heap s.heap [] := ⟨hP, hD0, va_S.rf⟩
  have S : CallFix p m c cX8_comes 2 s args wsX8_comes RX8 := ⟨hx, hb, hml, hown, hts⟩
  have in8 : ∀ w ∈ wsX80, w ∈ wsX8_comes := fun _ h => List.mem_cons_of_mem _ (List.mem_append_right _ h)
  have hl := lv_entry ([.ref (A 0), .int a1]) (n := 2) (Nat.le_of_ble_eq_true rfl)
  have hE : entryFrame m args 2 = F0 m 0 ((lg_sl ([.ref (A 0), .int a1]) ++ List.replicate (2 - (lg_sl ([.ref (A 0), .int a1])).length) Slot.unset).toArray) [] := by rw [hargs]; exact lg_entry_eq m [.ref (A 0), .int a1] 2
  rw [hE]
  generalize (lg_sl ([.ref (A 0), .int a1]) ++ List.replicate (2 - (lg_sl ([.ref (A 0), .int a1])).length) Slot.unset).toArray = ls at hl ⊢
  have hl : lv_has ls 2 [(0, .ref (A 0)), (1, .int a1)] := hl
  unfold f_X8_comes at hres
  refine lv_aload_n hx hb dX8_comes_0 rfl (lv_at hl 0 rfl) ?_
  refine lv_aload_n hx hb dX8_comes_1 rfl (lv_at hl 0 rfl) ?_
  refine lv_iload_n hx hb dX8_comes_2 rfl (lv_at hl 1 rfl) ?_
  obtain ⟨y1, e1, hres⟩ := bd hres
  refine ro_v S (c_X8_companyOf l D cy A X A0 v r a1 y1 e1) (cwV 1 hts gX8_comes_X8_companyOf rfl rfl rfl (by decide +kernel) ⟨Nat.le_of_ble_eq_true rfl, Nat.le_of_ble_eq_true rfl⟩) hI hK hN (ci := 7) rfl (atM_0) rfl rfl hl.1 rfl (Nat.le_of_ble_eq_true rfl) dX8_comes_3 ⟨Nat.zero_le _, Nat.zero_le _⟩ ?_
  refine pM_thereNow hx hb hts in8 hown hK hI (hts (.fieldLink RX8 116 "TrickHouseModel" "thereNow" "I") (by decide +kernel)) dX8_comes_6 (fun H locs hI => ?_)
  refine lv_iload_n hx hb dX8_comes_9 rfl (lv_at hl 1 rfl) ?_
  refine lv_aload_n hx hb dX8_comes_10 rfl (lv_at hl 0 rfl) ?_
  refine gM_thereNow hx hb hts in8 hown hK hI (hts (.fieldLink RX8 116 "TrickHouseModel" "thereNow" "I") (by decide +kernel)) dX8_comes_11 ?_
  refine lv_iconst (v := (-1)) hx hb dX8_comes_14 (by decide) ?_
  refine lv_ixor hx hb dX8_comes_15 ?_
  refine lv_iand hx hb dX8_comes_16 ?_
  obtain ⟨rfl, rfl, rfl⟩ := pr3 hres
  exact W.iret hx hb hr (fun t ht hW => ⟨rfl, ⟨by rw [ht]; exact hI.1, va_K.moved hW.alike hK, hI.2.1, NW.warm hW hN⟩, hI.2.2.F ht⟩) hI.2.2.2.2 dX8_comes_17
abbrev rm_X8_send : Room := { frames := 4, cells := 0, slots := 0, locals := 91 }
def f_X8_send (v : Nat → Int32) (r : Nat → Nat → Int32) (a1 : Int32) : Option (Int32 × ST) := (if (f_X8_isArticle v r a1) = true then (if (f_X8_isOf (v 5) a1) = true then some ((-3), (v, r)) else (f_X8_comes v r ((v 5) ||| ((1 : Int32) <<< (a1 &&& 31)))).bind (fun y5 => some (y5.1, (y5.2.1, y5.2.2)))) else some ((-1), (v, r)))
set_option maxHeartbeats 4000000 in
set_option maxRecDepth 100000 in
theorem c_X8_send (l : Launch) (D : va_G) (cy : Nat → ClassId) (A : Nat → Nat) (X : va_W) (A0 : Nat → Prop) (v : Nat → Int32) (r : Nat → Nat → Int32) (a1 : Int32) (res : Int32) (v2 : Nat → Int32) (r2 : Nat → Nat → Int32) (hres : f_X8_send v r a1 = some (res, (v2, r2))) : Met l yX8_send wsX8_send rm_X8_send (va_Pc [.ref (A 0), .int a1] (GW D (tyM cy) (pcM cy A v r ++ X) A0)) (QW (some (.int res)) (GW D (tyM cy) (pcM cy A v2 r2 ++ X) A0) A0) 0 0 A0 := by
  refine Met.ofW (cc := cX8_send) (maxL := 2) (ret := (some .int)) (by decide) rfl ?_
  intro p e s m args below meth c s₁ B hml hv
  obtain ⟨hargs, hP, hK, hD0, hN⟩ := hv
  have hx := B.exec
  have hb := B.bytes
  have hr := B.returns
  have hts := atoms_spec (ws := wsX8_send) B.pre
  have hown : s.vm.findClass RX8 = some m.cls := findClass_of_methodNamed B.named
  have hlocks := B.notSynchronized
  have hI : IW D (pcM cy A v r ++ X) A0 s.heap s.heap [] := ⟨hP, hD0, va_S.rf⟩
  have S : CallFix p m c cX8_send 2 s args wsX8_send RX8 := ⟨hx, hb, hml, hown, hts⟩
  have in8 : ∀ w ∈ wsX80, w ∈ wsX8_send := fun _ h => List.mem_cons_of_mem _ (List.mem_append_right _ h)
  have hl := lv_entry ([.ref (A 0), .int a1]) (n := 2) (Nat.le_of_ble_eq_true rfl)
  have hE : entryFrame m args 2 = F0 m 0 ((lg_sl ([.ref (A 0), .int a1]) ++ List.replicate (2 - (lg_sl ([.ref (A 0), .int a1])).length) Slot.unset).toArray) [] := by rw [hargs]; exact lg_entry_eq m [.ref (A 0), .int a1] 2
  rw [hE]
  generalize (lg_sl ([.ref (A 0), .int a1]) ++ List.replicate (2 - (lg_sl ([.ref (A 0), .int a1])).length) Slot.unset).toArray = ls at hl ⊢
  have hl : lv_has ls 2 [(0, .ref (A 0)), (1, .int a1)] := hl
  unfold f_X8_send at hres
  refine lv_aload_n hx hb dX8_send_0 rfl (lv_at hl 0 rfl) ?_
  refine lv_iload_n hx hb dX8_send_1 rfl (lv_at hl 1 rfl) ?_
  refine ro_v S (c_X8_isArticle l D cy A X A0 v r a1 _ rfl) (cwV 1 hts gX8_send_X8_isArticle rfl rfl rfl (by decide +kernel) ⟨Nat.le_of_ble_eq_true rfl, Nat.le_of_ble_eq_true rfl⟩) hI hK hN (ci := 7) rfl (atM_0) rfl rfl hl.1 rfl (Nat.le_of_ble_eq_true rfl) dX8_send_2 ⟨Nat.zero_le _, Nat.zero_le _⟩ ?_
  refine lv_if_ne (tgt := 10) hx hb dX8_send_5 (by decide) (fun c2 => ?_) (fun c2 => ?_)
  · replace hres := (if_pos (bI_t c2)).symm.trans hres
    refine lv_aload_n hx hb dX8_send_10 rfl (lv_at hl 0 rfl) ?_
    refine gM_thereNow hx hb hts in8 hown hK hI (hts (.fieldLink RX8 116 "TrickHouseModel" "thereNow" "I") (by decide +kernel)) dX8_send_11 ?_
    refine lv_iload_n hx hb dX8_send_14 rfl (lv_at hl 1 rfl) ?_
    refine pu_s S (c_X8_isOf l (v 5) a1 _ rfl) (va_cwS 2 hts gX8_send_X8_isOf rfl rfl rfl (by decide +kernel) ⟨Nat.le_of_ble_eq_true rfl, Nat.le_of_ble_eq_true rfl⟩) hN rfl hl.1 rfl (Nat.le_of_ble_eq_true rfl) dX8_send_15 ⟨Nat.zero_le _, Nat.zero_le _⟩ ?_
    refine lv_if_eq (tgt := 26) hx hb dX8_send_18 (by decide) (fun c4 => ?_) (fun c4 => ?_)
    · replace hres := (if_neg (bI_f c4)).symm.trans hres
      refine lv_aload_n hx hb dX8_send_26 rfl (lv_at hl 0 rfl) ?_
      refine lv_aload_n hx hb dX8_send_27 rfl (lv_at hl 0 rfl) ?_
      refine gM_thereNow hx hb hts in8 hown hK hI (hts (.fieldLink RX8 116 "TrickHouseModel" "thereNow" "I") (by decide +kernel)) dX8_send_28 ?_
      refine lv_iconst (v := 1) hx hb dX8_send_31 (by decide) ?_
      refine lv_iload_n hx hb dX8_send_32 rfl (lv_at hl 1 rfl) ?_
      refine lv_ishl hx hb dX8_send_33 ?_
      refine lv_ior hx hb dX8_send_34 ?_
      obtain ⟨y5, e5, hres⟩ := bd hres
      refine rw_v S (c_X8_comes l D cy A X A0 v r ((v 5) ||| ((1 : Int32) <<< (a1 &&& 31))) y5.1 y5.2.1 y5.2.2 e5) (cwV 1 hts gX8_send_X8_comes rfl rfl rfl (by decide +kernel) ⟨Nat.le_of_ble_eq_true rfl, Nat.le_of_ble_eq_true rfl⟩) hI hK hN (ci := 7) rfl (atM_0) rfl rfl hl.1 rfl (Nat.le_of_ble_eq_true rfl) dX8_send_35 ⟨Nat.zero_le _, Nat.zero_le _⟩ (fun H locs hI => ?_)
      obtain ⟨rfl, rfl, rfl⟩ := pr3 hres
      exact W.iret hx hb hr (fun t ht hW => ⟨rfl, ⟨by rw [ht]; exact hI.1, va_K.moved hW.alike hK, hI.2.1, NW.warm hW hN⟩, hI.2.2.F ht⟩) hI.2.2.2.2 dX8_send_38
    · replace hres := (if_pos (bI_t c4)).symm.trans hres
      refine lv_bipush (v := (-3)) hx hb dX8_send_21 (by decide) ?_
      refine lv_goto (tgt := 38) hx hb dX8_send_23 (by decide) ?_
      obtain ⟨rfl, rfl, rfl⟩ := pr3 hres
      exact W.iret hx hb hr (fun t ht hW => ⟨rfl, ⟨by rw [ht]; exact hI.1, va_K.moved hW.alike hK, hI.2.1, NW.warm hW hN⟩, hI.2.2.F ht⟩) hI.2.2.2.2 dX8_send_38
  · replace hres := (if_neg (bI_f c2)).symm.trans hres
    refine lv_iconst (v := (-1)) hx hb dX8_send_8 (by decide) ?_
    obtain ⟨rfl, rfl, rfl⟩ := pr3 hres
    exact W.iret hx hb hr (fun t ht hW => ⟨rfl, ⟨by rw [ht]; exact hI.1, va_K.moved hW.alike hK, hI.2.1, NW.warm hW hN⟩, hI.2.2.F ht⟩) hI.2.2.2.2 dX8_send_9
abbrev rm_X8_call : Room := { frames := 4, cells := 0, slots := 0, locals := 91 }
def f_X8_call (v : Nat → Int32) (r : Nat → Nat → Int32) (a1 : Int32) : Option (Int32 × ST) := (if (f_X8_isArticle v r a1) = true then (if (f_X8_isOf (v 5) a1) = true then (f_X8_comes v r ((v 5) &&& (((1 : Int32) <<< (a1 &&& 31)) ^^^ (-1)))).bind (fun y5 => some (y5.1, (y5.2.1, y5.2.2))) else some ((-3), (v, r))) else some ((-1), (v, r)))
set_option maxHeartbeats 4000000 in
set_option maxRecDepth 100000 in
theorem c_X8_call (l : Launch) (D : va_G) (cy : Nat → ClassId) (A : Nat → Nat) (X : va_W) (A0 : Nat → Prop) (v : Nat → Int32) (r : Nat → Nat → Int32) (a1 : Int32) (res : Int32) (v2 : Nat → Int32) (r2 : Nat → Nat → Int32) (hres : f_X8_call v r a1 = some (res, (v2, r2))) : Met l yX8_call wsX8_call rm_X8_call (va_Pc [.ref (A 0), .int a1] (GW D (tyM cy) (pcM cy A v r ++ X) A0)) (QW (some (.int res)) (GW D (tyM cy) (pcM cy A v2 r2 ++ X) A0) A0) 0 0 A0 := by
  refine Met.ofW (cc := cX8_call) (maxL := 2) (ret := (some .int)) (by decide) rfl ?_
  intro p e s m args below meth c s₁ B hml hv
  obtain ⟨hargs, hP, hK, hD0, hN⟩ := hv
  have hx := B.exec
  have hb := B.bytes
  have hr := B.returns
  have hts := atoms_spec (ws := wsX8_call) B.pre
  have hown : s.vm.findClass RX8 = some m.cls := findClass_of_methodNamed B.named
  have hlocks := B.notSynchronized
  have hI : IW D (pcM cy A v r ++ X) A0 s.heap s.heap [] := ⟨hP, hD0, va_S.rf⟩
  have S : CallFix p m c cX8_call 2 s args wsX8_call RX8 := ⟨hx, hb, hml, hown, hts⟩
  have in8 : ∀ w ∈ wsX80, w ∈ wsX8_call := fun _ h => List.mem_cons_of_mem _ (List.mem_append_right _ h)
  have hl := lv_entry ([.ref (A 0), .int a1]) (n := 2) (Nat.le_of_ble_eq_true rfl)
  have hE : entryFrame m args 2 = F0 m 0 ((lg_sl ([.ref (A 0), .int a1]) ++ List.replicate (2 - (lg_sl ([.ref (A 0), .int a1])).length) Slot.unset).toArray) [] := by rw [hargs]; exact lg_entry_eq m [.ref (A 0), .int a1] 2
  rw [hE]
  generalize (lg_sl ([.ref (A 0), .int a1]) ++ List.replicate (2 - (lg_sl ([.ref (A 0), .int a1])).length) Slot.unset).toArray = ls at hl ⊢
  have hl : lv_has ls 2 [(0, .ref (A 0)), (1, .int a1)] := hl
  unfold f_X8_call at hres
  refine lv_aload_n hx hb dX8_call_0 rfl (lv_at hl 0 rfl) ?_
  refine lv_iload_n hx hb dX8_call_1 rfl (lv_at hl 1 rfl) ?_
  refine ro_v S (c_X8_isArticle l D cy A X A0 v r a1 _ rfl) (cwV 1 hts gX8_call_X8_isArticle rfl rfl rfl (by decide +kernel) ⟨Nat.le_of_ble_eq_true rfl, Nat.le_of_ble_eq_true rfl⟩) hI hK hN (ci := 7) rfl (atM_0) rfl rfl hl.1 rfl (Nat.le_of_ble_eq_true rfl) dX8_call_2 ⟨Nat.zero_le _, Nat.zero_le _⟩ ?_
  refine lv_if_ne (tgt := 10) hx hb dX8_call_5 (by decide) (fun c2 => ?_) (fun c2 => ?_)
  · replace hres := (if_pos (bI_t c2)).symm.trans hres
    refine lv_aload_n hx hb dX8_call_10 rfl (lv_at hl 0 rfl) ?_
    refine gM_thereNow hx hb hts in8 hown hK hI (hts (.fieldLink RX8 116 "TrickHouseModel" "thereNow" "I") (by decide +kernel)) dX8_call_11 ?_
    refine lv_iload_n hx hb dX8_call_14 rfl (lv_at hl 1 rfl) ?_
    refine pu_s S (c_X8_isOf l (v 5) a1 _ rfl) (va_cwS 2 hts gX8_call_X8_isOf rfl rfl rfl (by decide +kernel) ⟨Nat.le_of_ble_eq_true rfl, Nat.le_of_ble_eq_true rfl⟩) hN rfl hl.1 rfl (Nat.le_of_ble_eq_true rfl) dX8_call_15 ⟨Nat.zero_le _, Nat.zero_le _⟩ ?_
    refine lv_if_eq (tgt := 38) hx hb dX8_call_18 (by decide) (fun c4 => ?_) (fun c4 => ?_)
    · replace hres := (if_neg (bI_f c4)).symm.trans hres
      refine lv_bipush (v := (-3)) hx hb dX8_call_38 (by decide) ?_
      obtain ⟨rfl, rfl, rfl⟩ := pr3 hres
      exact W.iret hx hb hr (fun t ht hW => ⟨rfl, ⟨by rw [ht]; exact hI.1, va_K.moved hW.alike hK, hI.2.1, NW.warm hW hN⟩, hI.2.2.F ht⟩) hI.2.2.2.2 dX8_call_40
    · replace hres := (if_pos (bI_t c4)).symm.trans hres
      refine lv_aload_n hx hb dX8_call_21 rfl (lv_at hl 0 rfl) ?_
      refine lv_aload_n hx hb dX8_call_22 rfl (lv_at hl 0 rfl) ?_
      refine gM_thereNow hx hb hts in8 hown hK hI (hts (.fieldLink RX8 116 "TrickHouseModel" "thereNow" "I") (by decide +kernel)) dX8_call_23 ?_
      refine lv_iconst (v := 1) hx hb dX8_call_26 (by decide) ?_
      refine lv_iload_n hx hb dX8_call_27 rfl (lv_at hl 1 rfl) ?_
      refine lv_ishl hx hb dX8_call_28 ?_
      refine lv_iconst (v := (-1)) hx hb dX8_call_29 (by decide) ?_
      refine lv_ixor hx hb dX8_call_30 ?_
      refine lv_iand hx hb dX8_call_31 ?_
      obtain ⟨y5, e5, hres⟩ := bd hres
      refine rw_v S (c_X8_comes l D cy A X A0 v r ((v 5) &&& (((1 : Int32) <<< (a1 &&& 31)) ^^^ (-1))) y5.1 y5.2.1 y5.2.2 e5) (cwV 1 hts gX8_call_X8_comes rfl rfl rfl (by decide +kernel) ⟨Nat.le_of_ble_eq_true rfl, Nat.le_of_ble_eq_true rfl⟩) hI hK hN (ci := 7) rfl (atM_0) rfl rfl hl.1 rfl (Nat.le_of_ble_eq_true rfl) dX8_call_32 ⟨Nat.zero_le _, Nat.zero_le _⟩ (fun H locs hI => ?_)
      refine lv_goto (tgt := 40) hx hb dX8_call_35 (by decide) ?_
      obtain ⟨rfl, rfl, rfl⟩ := pr3 hres
      exact W.iret hx hb hr (fun t ht hW => ⟨rfl, ⟨by rw [ht]; exact hI.1, va_K.moved hW.alike hK, hI.2.1, NW.warm hW hN⟩, hI.2.2.F ht⟩) hI.2.2.2.2 dX8_call_40
  · replace hres := (if_neg (bI_f c2)).symm.trans hres
    refine lv_iconst (v := (-1)) hx hb dX8_call_8 (by decide) ?_
    obtain ⟨rfl, rfl, rfl⟩ := pr3 hres
    exact W.iret hx hb hr (fun t ht hW => ⟨rfl, ⟨by rw [ht]; exact hI.1, va_K.moved hW.alike hK, hI.2.1, NW.warm hW hN⟩, hI.2.2.F ht⟩) hI.2.2.2.2 dX8_call_9
abbrev rm_X8_laughter : Room := { frames := 2, cells := 0, slots := 0, locals := 44 }
def f_X8_laughter (v : Nat → Int32) (r : Nat → Nat → Int32) : Option Int32 := (if (v 4) = 0 then some ((-3)) else (f_X8_laughsOf v r (v 5)).bind (fun y2 => some (y2)))
set_option maxHeartbeats 4000000 in
set_option maxRecDepth 100000 in
theorem c_X8_laughter (l : Launch) (D : va_G) (cy : Nat → ClassId) (A : Nat → Nat) (X : va_W) (A0 : Nat → Prop) (v : Nat → Int32) (r : Nat → Nat → Int32) (res : Int32) (hres : f_X8_laughter v r = some res) : Met l yX8_laughter wsX8_laughter rm_X8_laughter (va_Pc [.ref (A 0)] (GW D (tyM cy) (pcM cy A v r ++ X) A0)) (QR (.int res)) 0 0 (fun _ => False) := by
  refine Met.ofW (cc := cX8_laughter) (maxL := 1) (ret := (some .int)) (by decide) rfl ?_
  intro p e s m args below meth c s₁ B hml hv
  obtain ⟨hargs, hP, hK, hD0, hN⟩ := hv
  have hx := B.exec
  have hb := B.bytes
  have hr := B.returns
  have hts := atoms_spec (ws := wsX8_laughter) B.pre
  have hown : s.vm.findClass RX8 = some m.cls := findClass_of_methodNamed B.named
  have hlocks := B.notSynchronized
  have hI : IW D (pcM cy A v r ++ X) A0 s.heap s.heap [] := ⟨hP, hD0, va_S.rf⟩
  have S : CallFix p m c cX8_laughter 1 s args wsX8_laughter RX8 := ⟨hx, hb, hml, hown, hts⟩
  have in8 : ∀ w ∈ wsX80, w ∈ wsX8_laughter := fun _ h => List.mem_cons_of_mem _ (List.mem_append_right _ h)
  have hl := lv_entry ([.ref (A 0)]) (n := 1) (Nat.le_of_ble_eq_true rfl)
  have hE : entryFrame m args 1 = F0 m 0 ((lg_sl ([.ref (A 0)]) ++ List.replicate (1 - (lg_sl ([.ref (A 0)])).length) Slot.unset).toArray) [] := by rw [hargs]; exact lg_entry_eq m [.ref (A 0)] 1
  rw [hE]
  generalize (lg_sl ([.ref (A 0)]) ++ List.replicate (1 - (lg_sl ([.ref (A 0)])).length) Slot.unset).toArray = ls at hl ⊢
  have hl : lv_has ls 1 [(0, .ref (A 0))] := hl
  unfold f_X8_laughter at hres
  refine lv_aload_n hx hb dX8_laughter_0 rfl (lv_at hl 0 rfl) ?_
  refine gM_articles hx hb hts in8 hown hK hI (hts (.fieldLink RX8 74 "TrickHouseModel" "articles" "I") (by decide +kernel)) dX8_laughter_1 ?_
  refine lv_if_ne (tgt := 12) hx hb dX8_laughter_4 (by decide) (fun c1 => ?_) (fun c1 => ?_)
  · replace hres := (if_neg c1).symm.trans hres
    refine lv_aload_n hx hb dX8_laughter_12 rfl (lv_at hl 0 rfl) ?_
    refine lv_aload_n hx hb dX8_laughter_13 rfl (lv_at hl 0 rfl) ?_
    refine gM_thereNow hx hb hts in8 hown hK hI (hts (.fieldLink RX8 116 "TrickHouseModel" "thereNow" "I") (by decide +kernel)) dX8_laughter_14 ?_
    obtain ⟨y2, e2, hres⟩ := bd hres
    refine ro_v S (c_X8_laughsOf l D cy A X A0 v r (v 5) y2 e2) (cwV 1 hts gX8_laughter_X8_laughsOf rfl rfl rfl (by decide +kernel) ⟨Nat.le_of_ble_eq_true rfl, Nat.le_of_ble_eq_true rfl⟩) hI hK hN (ci := 7) rfl (atM_0) rfl rfl hl.1 rfl (Nat.le_of_ble_eq_true rfl) dX8_laughter_17 ⟨Nat.zero_le _, Nat.zero_le _⟩ ?_
    obtain rfl := Option.some.inj hres
    exact W.iret hx hb hr (fun t ht hW => ⟨rfl, ht⟩) (fun _ h => absurd h List.not_mem_nil) dX8_laughter_20
  · replace hres := (if_pos c1).symm.trans hres
    refine lv_bipush (v := (-3)) hx hb dX8_laughter_7 (by decide) ?_
    refine lv_goto (tgt := 20) hx hb dX8_laughter_9 (by decide) ?_
    obtain rfl := Option.some.inj hres
    exact W.iret hx hb hr (fun t ht hW => ⟨rfl, ht⟩) (fun _ h => absurd h List.not_mem_nil) dX8_laughter_20
abbrev rm_X8_apart : Room := { frames := 0, cells := 0, slots := 0, locals := 0 }
def f_X8_apart (a0 : Int32) (a1 : Int32) : Int32 := (if a1 ≤ a0 then ((a0 - a1)) else ((a1 - a0)))
set_option maxHeartbeats 4000000 in
set_option maxRecDepth 100000 in
theorem c_X8_apart (l : Launch) (a0 : Int32) (a1 : Int32) (res : Int32) (hres : f_X8_apart a0 a1 = res) : Met l yX8_apart wsX8_apart rm_X8_apart (va_Pc [.int a0, .int a1] NW) (QR (.int res)) 0 0 (fun _ => False) := by
  refine Met.ofW (cc := cX8_apart) (maxL := 2) (ret := (some .int)) (by decide) rfl ?_
  intro p e s m args below meth c s₁ B hml hv
  obtain ⟨hargs, hN⟩ := hv
  have hx := B.exec
  have hb := B.bytes
  have hr := B.returns
  have hts := atoms_spec (ws := wsX8_apart) B.pre
  have hown : s.vm.findClass RX8 = some m.cls := findClass_of_methodNamed B.named
  have hlocks := B.notSynchronized
  have hl := lv_entry ([.int a0, .int a1]) (n := 2) (Nat.le_of_ble_eq_true rfl)
  have hE : entryFrame m args 2 = F0 m 0 ((lg_sl ([.int a0, .int a1]) ++ List.replicate (2 - (lg_sl ([.int a0, .int a1])).length) Slot.unset).toArray) [] := by rw [hargs]; exact lg_entry_eq m [.int a0, .int a1] 2
  rw [hE]
  generalize (lg_sl ([.int a0, .int a1]) ++ List.replicate (2 - (lg_sl ([.int a0, .int a1])).length) Slot.unset).toArray = ls at hl ⊢
  have hl : lv_has ls 2 [(0, .int a0), (1, .int a1)] := hl
  unfold f_X8_apart at hres
  refine lv_iload_n hx hb dX8_apart_0 rfl (lv_at hl 0 rfl) ?_
  refine lv_iload_n hx hb dX8_apart_1 rfl (lv_at hl 1 rfl) ?_
  refine lv_icmp_ge (tgt := 11) hx hb dX8_apart_2 (by decide) (fun c1 => ?_) (fun c1 => ?_)
  · replace hres := (if_pos c1).symm.trans hres
    refine lv_iload_n hx hb dX8_apart_11 rfl (lv_at hl 0 rfl) ?_
    refine lv_iload_n hx hb dX8_apart_12 rfl (lv_at hl 1 rfl) ?_
    refine lv_isub hx hb dX8_apart_13 ?_
    obtain rfl := hres
    exact W.iret hx hb hr (fun t ht hW => ⟨rfl, ht⟩) (fun _ h => absurd h List.not_mem_nil) dX8_apart_14
  · replace hres := (if_neg c1).symm.trans hres
    refine lv_iload_n hx hb dX8_apart_5 rfl (lv_at hl 1 rfl) ?_
    refine lv_iload_n hx hb dX8_apart_6 rfl (lv_at hl 0 rfl) ?_
    refine lv_isub hx hb dX8_apart_7 ?_
    refine lv_goto (tgt := 14) hx hb dX8_apart_8 (by decide) ?_
    obtain rfl := hres
    exact W.iret hx hb hr (fun t ht hW => ⟨rfl, ht⟩) (fun _ h => absurd h List.not_mem_nil) dX8_apart_14
abbrev rm_X8_heardAt : Room := { frames := 2, cells := 0, slots := 0, locals := 44 }
def f_X8_heardAt (v : Nat → Int32) (r : Nat → Nat → Int32) (a1 : Int32) : Option Int32 := (f_X8_laughsOf v r (v 5)).bind (fun y3 => (if y3 ≤ ((f_X8_apart (a1 - a1 / 8 * 8) ((v 2) - (v 2) / 8 * 8)) + (f_X8_apart (a1 / 8) ((v 2) / 8))) then some (0) else some ((y3 - ((f_X8_apart (a1 - a1 / 8 * 8) ((v 2) - (v 2) / 8 * 8)) + (f_X8_apart (a1 / 8) ((v 2) / 8)))))))
set_option maxHeartbeats 4000000 in
set_option maxRecDepth 100000 in
theorem c_X8_heardAt (l : Launch) (D : va_G) (cy : Nat → ClassId) (A : Nat → Nat) (X : va_W) (A0 : Nat → Prop) (v : Nat → Int32) (r : Nat → Nat → Int32) (a1 : Int32) (res : Int32) (hres : f_X8_heardAt v r a1 = some res) : Met l yX8_heardAt wsX8_heardAt rm_X8_heardAt (va_Pc [.ref (A 0), .int a1] (GW D (tyM cy) (pcM cy A v r ++ X) A0)) (QR (.int res)) 0 0 (fun _ => False) := by
  refine Met.ofW (cc := cX8_heardAt) (maxL := 4) (ret := (some .int)) (by decide) rfl ?_
  intro p e s m args below meth c s₁ B hml hv
  obtain ⟨hargs, hP, hK, hD0, hN⟩ := hv
  have hx := B.exec
  have hb := B.bytes
  have hr := B.returns
  have hts := atoms_spec (ws := wsX8_heardAt) B.pre
  have hown : s.vm.findClass RX8 = some m.cls := findClass_of_methodNamed B.named
  have hlocks := B.notSynchronized
  have hI : IW D (pcM cy A v r ++ X) A0 s.heap s.heap [] := ⟨hP, hD0, va_S.rf⟩
  have S : CallFix p m c cX8_heardAt 4 s args wsX8_heardAt RX8 := ⟨hx, hb, hml, hown, hts⟩
  have in8 : ∀ w ∈ wsX80, w ∈ wsX8_heardAt := fun _ h => List.mem_cons_of_mem _ (List.mem_append_right _ h)
  have hl := lv_entry ([.ref (A 0), .int a1]) (n := 4) (Nat.le_of_ble_eq_true rfl)
  have hE : entryFrame m args 4 = F0 m 0 ((lg_sl ([.ref (A 0), .int a1]) ++ List.replicate (4 - (lg_sl ([.ref (A 0), .int a1])).length) Slot.unset).toArray) [] := by rw [hargs]; exact lg_entry_eq m [.ref (A 0), .int a1] 4
  rw [hE]
  generalize (lg_sl ([.ref (A 0), .int a1]) ++ List.replicate (4 - (lg_sl ([.ref (A 0), .int a1])).length) Slot.unset).toArray = ls at hl ⊢
  have hl : lv_has ls 4 [(0, .ref (A 0)), (1, .int a1)] := hl
  unfold f_X8_heardAt at hres
  refine lv_iload_n hx hb dX8_heardAt_0 rfl (lv_at hl 1 rfl) ?_
  refine lv_bipush (v := 8) hx hb dX8_heardAt_1 (by decide) ?_
  refine lv_irem hx hb dX8_heardAt_3 (by decide) ?_
  refine lv_aload_n hx hb dX8_heardAt_4 rfl (lv_at hl 0 rfl) ?_
  refine gM_stands hx hb hts in8 hown hK hI (hts (.fieldLink RX8 107 "TrickHouseModel" "stands" "I") (by decide +kernel)) dX8_heardAt_5 ?_
  refine lv_bipush (v := 8) hx hb dX8_heardAt_8 (by decide) ?_
  refine lv_irem hx hb dX8_heardAt_10 (by decide) ?_
  refine pu_s S (c_X8_apart l (a1 - a1 / 8 * 8) ((v 2) - (v 2) / 8 * 8) _ rfl) (va_cwS 2 hts gX8_heardAt_X8_apart rfl rfl rfl (by decide +kernel) ⟨Nat.le_of_ble_eq_true rfl, Nat.le_of_ble_eq_true rfl⟩) hN rfl hl.1 rfl (Nat.le_of_ble_eq_true rfl) dX8_heardAt_11 ⟨Nat.zero_le _, Nat.zero_le _⟩ ?_
  refine lv_iload_n hx hb dX8_heardAt_14 rfl (lv_at hl 1 rfl) ?_
  refine lv_bipush (v := 8) hx hb dX8_heardAt_15 (by decide) ?_
  refine lv_idiv hx hb dX8_heardAt_17 (by decide) ?_
  refine lv_aload_n hx hb dX8_heardAt_18 rfl (lv_at hl 0 rfl) ?_
  refine gM_stands hx hb hts in8 hown hK hI (hts (.fieldLink RX8 107 "TrickHouseModel" "stands" "I") (by decide +kernel)) dX8_heardAt_19 ?_
  refine lv_bipush (v := 8) hx hb dX8_heardAt_22 (by decide) ?_
  refine lv_idiv hx hb dX8_heardAt_24 (by decide) ?_
  refine pu_s S (c_X8_apart l (a1 / 8) ((v 2) / 8) _ rfl) (va_cwS 2 hts gX8_heardAt_X8_apart rfl rfl rfl (by decide +kernel) ⟨Nat.le_of_ble_eq_true rfl, Nat.le_of_ble_eq_true rfl⟩) hN rfl hl.1 rfl (Nat.le_of_ble_eq_true rfl) dX8_heardAt_25 ⟨Nat.zero_le _, Nat.zero_le _⟩ ?_
  refine lv_iadd hx hb dX8_heardAt_28 ?_
  refine lv_istore_n (lv' := [(2, .int ((f_X8_apart (a1 - a1 / 8 * 8) ((v 2) - (v 2) / 8 * 8)) + (f_X8_apart (a1 / 8) ((v 2) / 8)))), (0, .ref (A 0)), (1, .int a1)]) hx hb dX8_heardAt_29 rfl hl (by decide) rfl (fun ls hl => ?_)
  refine lv_aload_n hx hb dX8_heardAt_30 rfl (lv_at hl 1 rfl) ?_
  refine lv_aload_n hx hb dX8_heardAt_31 rfl (lv_at hl 1 rfl) ?_
  refine gM_thereNow hx hb hts in8 hown hK hI (hts (.fieldLink RX8 116 "TrickHouseModel" "thereNow" "I") (by decide +kernel)) dX8_heardAt_32 ?_
  obtain ⟨y3, e3, hres⟩ := bd hres
  refine ro_v S (c_X8_laughsOf l D cy A X A0 v r (v 5) y3 e3) (cwV 1 hts gX8_heardAt_X8_laughsOf rfl rfl rfl (by decide +kernel) ⟨Nat.le_of_ble_eq_true rfl, Nat.le_of_ble_eq_true rfl⟩) hI hK hN (ci := 7) rfl (atM_0) rfl rfl hl.1 rfl (Nat.le_of_ble_eq_true rfl) dX8_heardAt_35 ⟨Nat.zero_le _, Nat.zero_le _⟩ ?_
  refine lv_istore_n (lv' := [(3, .int y3), (2, .int ((f_X8_apart (a1 - a1 / 8 * 8) ((v 2) - (v 2) / 8 * 8)) + (f_X8_apart (a1 / 8) ((v 2) / 8)))), (0, .ref (A 0)), (1, .int a1)]) hx hb dX8_heardAt_38 rfl hl (by decide) rfl (fun ls hl => ?_)
  refine lv_iload_n hx hb dX8_heardAt_39 rfl (lv_at hl 0 rfl) ?_
  refine lv_iload_n hx hb dX8_heardAt_40 rfl (lv_at hl 1 rfl) ?_
  refine lv_icmp_le (tgt := 50) hx hb dX8_heardAt_41 (by decide) (fun c4 => ?_) (fun c4 => ?_)
  · replace hres := (if_pos c4).symm.trans hres
    refine lv_iconst (v := 0) hx hb dX8_heardAt_50 (by decide) ?_
    obtain rfl := Option.some.inj hres
    exact W.iret hx hb hr (fun t ht hW => ⟨rfl, ht⟩) (fun _ h => absurd h List.not_mem_nil) dX8_heardAt_51
  · replace hres := (if_neg c4).symm.trans hres
    refine lv_iload_n hx hb dX8_heardAt_44 rfl (lv_at hl 0 rfl) ?_
    refine lv_iload_n hx hb dX8_heardAt_45 rfl (lv_at hl 1 rfl) ?_
    refine lv_isub hx hb dX8_heardAt_46 ?_
    refine lv_goto (tgt := 51) hx hb dX8_heardAt_47 (by decide) ?_
    obtain rfl := Option.some.inj hres
    exact W.iret hx hb hr (fun t ht hW => ⟨rfl, ht⟩) (fun _ h => absurd h List.not_mem_nil) dX8_heardAt_51
abbrev rm_X8_heard : Room := { frames := 3, cells := 0, slots := 0, locals := 67 }
def f_X8_heard (v : Nat → Int32) (r : Nat → Nat → Int32) (a1 : Int32) : Option Int32 := (if (f_X8_isCorner a1) = true then (if (v 4) = 0 then some ((-3)) else (f_X8_heardAt v r a1).bind (fun y4 => some (y4))) else some ((-2)))
set_option maxHeartbeats 4000000 in
set_option maxRecDepth 100000 in
theorem c_X8_heard (l : Launch) (D : va_G) (cy : Nat → ClassId) (A : Nat → Nat) (X : va_W) (A0 : Nat → Prop) (v : Nat → Int32) (r : Nat → Nat → Int32) (a1 : Int32) (res : Int32) (hres : f_X8_heard v r a1 = some res) : Met l yX8_heard wsX8_heard rm_X8_heard (va_Pc [.ref (A 0), .int a1] (GW D (tyM cy) (pcM cy A v r ++ X) A0)) (QR (.int res)) 0 0 (fun _ => False) := by
  refine Met.ofW (cc := cX8_heard) (maxL := 2) (ret := (some .int)) (by decide) rfl ?_
  intro p e s m args below meth c s₁ B hml hv
  obtain ⟨hargs, hP, hK, hD0, hN⟩ := hv
  have hx := B.exec
  have hb := B.bytes
  have hr := B.returns
  have hts := atoms_spec (ws := wsX8_heard) B.pre
  have hown : s.vm.findClass RX8 = some m.cls := findClass_of_methodNamed B.named
  have hlocks := B.notSynchronized
  have hI : IW D (pcM cy A v r ++ X) A0 s.heap s.heap [] := ⟨hP, hD0, va_S.rf⟩
  have S : CallFix p m c cX8_heard 2 s args wsX8_heard RX8 := ⟨hx, hb, hml, hown, hts⟩
  have in8 : ∀ w ∈ wsX80, w ∈ wsX8_heard := fun _ h => List.mem_cons_of_mem _ (List.mem_append_right _ h)
  have hl := lv_entry ([.ref (A 0), .int a1]) (n := 2) (Nat.le_of_ble_eq_true rfl)
  have hE : entryFrame m args 2 = F0 m 0 ((lg_sl ([.ref (A 0), .int a1]) ++ List.replicate (2 - (lg_sl ([.ref (A 0), .int a1])).length) Slot.unset).toArray) [] := by rw [hargs]; exact lg_entry_eq m [.ref (A 0), .int a1] 2
  rw [hE]
  generalize (lg_sl ([.ref (A 0), .int a1]) ++ List.replicate (2 - (lg_sl ([.ref (A 0), .int a1])).length) Slot.unset).toArray = ls at hl ⊢
  have hl : lv_has ls 2 [(0, .ref (A 0)), (1, .int a1)] := hl
  unfold f_X8_heard at hres
  refine lv_iload_n hx hb dX8_heard_0 rfl (lv_at hl 1 rfl) ?_
  refine pu_s S (c_X8_isCorner l a1 _ rfl) (va_cwS 1 hts gX8_heard_X8_isCorner rfl rfl rfl (by decide +kernel) ⟨Nat.le_of_ble_eq_true rfl, Nat.le_of_ble_eq_true rfl⟩) hN rfl hl.1 rfl (Nat.le_of_ble_eq_true rfl) dX8_heard_1 ⟨Nat.zero_le _, Nat.zero_le _⟩ ?_
  refine lv_if_ne (tgt := 10) hx hb dX8_heard_4 (by decide) (fun c2 => ?_) (fun c2 => ?_)
  · replace hres := (if_pos (bI_t c2)).symm.trans hres
    refine lv_aload_n hx hb dX8_heard_10 rfl (lv_at hl 0 rfl) ?_
    refine gM_articles hx hb hts in8 hown hK hI (hts (.fieldLink RX8 74 "TrickHouseModel" "articles" "I") (by decide +kernel)) dX8_heard_11 ?_
    refine lv_if_ne (tgt := 22) hx hb dX8_heard_14 (by decide) (fun c3 => ?_) (fun c3 => ?_)
    · replace hres := (if_neg c3).symm.trans hres
      refine lv_aload_n hx hb dX8_heard_22 rfl (lv_at hl 0 rfl) ?_
      refine lv_iload_n hx hb dX8_heard_23 rfl (lv_at hl 1 rfl) ?_
      obtain ⟨y4, e4, hres⟩ := bd hres
      refine ro_v S (c_X8_heardAt l D cy A X A0 v r a1 y4 e4) (cwV 1 hts gX8_heard_X8_heardAt rfl rfl rfl (by decide +kernel) ⟨Nat.le_of_ble_eq_true rfl, Nat.le_of_ble_eq_true rfl⟩) hI hK hN (ci := 7) rfl (atM_0) rfl rfl hl.1 rfl (Nat.le_of_ble_eq_true rfl) dX8_heard_24 ⟨Nat.zero_le _, Nat.zero_le _⟩ ?_
      obtain rfl := Option.some.inj hres
      exact W.iret hx hb hr (fun t ht hW => ⟨rfl, ht⟩) (fun _ h => absurd h List.not_mem_nil) dX8_heard_27
    · replace hres := (if_pos c3).symm.trans hres
      refine lv_bipush (v := (-3)) hx hb dX8_heard_17 (by decide) ?_
      refine lv_goto (tgt := 27) hx hb dX8_heard_19 (by decide) ?_
      obtain rfl := Option.some.inj hres
      exact W.iret hx hb hr (fun t ht hW => ⟨rfl, ht⟩) (fun _ h => absurd h List.not_mem_nil) dX8_heard_27
  · replace hres := (if_neg (bI_f c2)).symm.trans hres
    refine lv_bipush (v := (-2)) hx hb dX8_heard_7 (by decide) ?_
    obtain rfl := Option.some.inj hres
    exact W.iret hx hb hr (fun t ht hW => ⟨rfl, ht⟩) (fun _ h => absurd h List.not_mem_nil) dX8_heard_9
abbrev rm_X8_size : Room := { frames := 0, cells := 0, slots := 0, locals := 0 }
def f_X8_size_4 (a0 : Int32) : Nat → Int32 → Int32 → Option Int32
  | 0, _, _ => none
  | n4 + 1, x1, x2 => (if x2 ≤ 0 then some (x1) else f_X8_size_4 a0 n4 (x1 + (x2 &&& 1)) (x2 >>> ((1 : Int32) &&& 31)))
theorem f_X8_size_4_s (a0 : Int32) (n4 : Nat) (x1 : Int32) (x2 : Int32) : f_X8_size_4 a0 (n4 + 1) x1 x2 = (if x2 ≤ 0 then some (x1) else f_X8_size_4 a0 n4 (x1 + (x2 &&& 1)) (x2 >>> ((1 : Int32) &&& 31))) := rfl
def f_X8_size (a0 : Int32) : Option Int32 := f_X8_size_4 a0 80 (0 : Int32) a0
set_option maxHeartbeats 4000000 in
set_option maxRecDepth 100000 in
theorem c_X8_size (l : Launch) (a0 : Int32) (res : Int32) (hres : f_X8_size a0 = some res) : Met l yX8_size wsX8_size rm_X8_size (va_Pc [.int a0] NW) (QR (.int res)) 0 0 (fun _ => False) := by
  refine Met.ofW (cc := cX8_size) (maxL := 3) (ret := (some .int)) (by decide) rfl ?_
  intro p e s m args below meth c s₁ B hml hv
  obtain ⟨hargs, hN⟩ := hv
  have hx := B.exec
  have hb := B.bytes
  have hr := B.returns
  have hts := atoms_spec (ws := wsX8_size) B.pre
  have hown : s.vm.findClass RX8 = some m.cls := findClass_of_methodNamed B.named
  have hlocks := B.notSynchronized
  have hl := lv_entry ([.int a0]) (n := 3) (Nat.le_of_ble_eq_true rfl)
  have hE : entryFrame m args 3 = F0 m 0 ((lg_sl ([.int a0]) ++ List.replicate (3 - (lg_sl ([.int a0])).length) Slot.unset).toArray) [] := by rw [hargs]; exact lg_entry_eq m [.int a0] 3
  rw [hE]
  generalize (lg_sl ([.int a0]) ++ List.replicate (3 - (lg_sl ([.int a0])).length) Slot.unset).toArray = ls at hl ⊢
  have hl : lv_has ls 3 [(0, .int a0)] := hl
  unfold f_X8_size at hres
  refine lv_iconst (v := 0) hx hb dX8_size_0 (by decide) ?_
  refine lv_istore_n (lv' := [(1, .int 0), (0, .int a0)]) hx hb dX8_size_1 rfl hl (by decide) rfl (fun ls hl => ?_)
  refine lv_iload_n hx hb dX8_size_2 rfl (lv_at hl 1 rfl) ?_
  refine lv_istore_n (lv' := [(2, .int a0), (1, .int 0), (0, .int a0)]) hx hb dX8_size_3 rfl hl (by decide) rfl (fun ls hl => ?_)
  have w4 : ∀ (n4 : Nat) (x1 : Int32) (x2 : Int32), f_X8_size_4 a0 n4 x1 x2 = some res → ∀ ls : Array Slot, lv_has ls 3 [(1, .int x1), (2, .int x2)] → W p l e (headSpec wsX8_size rm_X8_size).room s m args below meth c s.heap [] 0 0 (MQ below (QR (.int res)) args s 0 0 (fun _ => False)) (F0 m 4 ls []) := by
    intro n4
    induction n4 with
    | zero =>
      intro x1 x2  hres
      have hres : (none : Option Int32) = some res := hres
      cases hres
    | succ n4 ih4 =>
      intro x1 x2  hres ls hl
      replace hres := (f_X8_size_4_s a0 n4 x1 x2).symm.trans hres
      refine lv_iload_n hx hb dX8_size_4 rfl (lv_at hl 1 rfl) ?_
      refine lv_if_le (tgt := 21) hx hb dX8_size_5 (by decide) (fun c1 => ?_) (fun c1 => ?_)
      · replace hres := (if_pos c1).symm.trans hres
        refine lv_iload_n hx hb dX8_size_21 rfl (lv_at hl 0 rfl) ?_
        obtain rfl := Option.some.inj hres
        exact W.iret hx hb hr (fun t ht hW => ⟨rfl, ht⟩) (fun _ h => absurd h List.not_mem_nil) dX8_size_22
      · replace hres := (if_neg c1).symm.trans hres
        refine lv_iload_n hx hb dX8_size_8 rfl (lv_at hl 0 rfl) ?_
        refine lv_iload_n hx hb dX8_size_9 rfl (lv_at hl 1 rfl) ?_
        refine lv_iconst (v := 1) hx hb dX8_size_10 (by decide) ?_
        refine lv_iand hx hb dX8_size_11 ?_
        refine lv_iadd hx hb dX8_size_12 ?_
        refine lv_istore_n (lv' := [(1, .int (x1 + (x2 &&& 1))), (2, .int x2)]) hx hb dX8_size_13 rfl hl (by decide) rfl (fun ls hl => ?_)
        refine lv_iload_n hx hb dX8_size_14 rfl (lv_at hl 1 rfl) ?_
        refine lv_iconst (v := 1) hx hb dX8_size_15 (by decide) ?_
        refine lv_ishr hx hb dX8_size_16 ?_
        refine lv_istore_n (lv' := [(2, .int (x2 >>> ((1 : Int32) &&& 31))), (1, .int (x1 + (x2 &&& 1)))]) hx hb dX8_size_17 rfl hl (by decide) rfl (fun ls hl => ?_)
        refine lv_goto (tgt := 4) hx hb dX8_size_18 (by decide) ?_
        exact ih4 (x1 + (x2 &&& 1)) (x2 >>> ((1 : Int32) &&& 31)) hres ls (lv_sub hl [1, 0] rfl)
  exact w4 80 (0 : Int32) a0 hres ls (lv_sub hl [1, 0] rfl)
