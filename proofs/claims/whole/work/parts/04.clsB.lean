abbrev rm_X3_add : Room := { frames := 0, cells := 0, slots := 0, locals := 0 }
def f_X3_add (v : Nat → Int32) (r : Nat → Nat → Int32) (a1 : Int32) (a2 : Int32) : Option (Int32 × ST) := (if (v 6) < 8 then if inR (v 6) 8 = true then if inR (v 6) 8 = true then some ((((upd v 6 ((v 6) + 1)) 6) - 1), ((upd v 6 ((v 6) + 1)), (va_up (va_up r 5 (upd (r 5) (v 6).toNatClampNeg a1)) 6 (upd ((va_up r 5 (upd (r 5) (v 6).toNatClampNeg a1)) 6) (v 6).toNatClampNeg a2)))) else none else none else some ((-4), (v, r)))
set_option maxHeartbeats 4000000 in
set_option maxRecDepth 100000 in
theorem c_X3_add (l : Launch) (D : va_G) (cy : Nat → ClassId) (A : Nat → Nat) (X : va_W) (A0 : Nat → Prop) (v : Nat → Int32) (r : Nat → Nat → Int32) (a1 : Int32) (a2 : Int32) (res : Int32) (v2 : Nat → Int32) (r2 : Nat → Nat → Int32) (hres : f_X3_add v r a1 a2 = some (res, (v2, r2))) : Met l yX3_add wsX3_add rm_X3_add (va_Pc [.ref (A 4), .int a1, .int a2] (GW D (tyC cy) (pcC cy A v r ++ X) A0)) (QW (some (.int res)) (GW D (tyC cy) (pcC cy A v2 r2 ++ X) A0) A0) 0 0 A0 := by
  refine Met.ofW (cc := cX3_add) (maxL := 3) (ret := (some .int)) (by decide) rfl ?_
  intro p e s m args below meth c s₁ B hml hv
  obtain ⟨hargs, hP, hK, hD0, hN⟩ := hv
  have hx := B.exec
  have hb := B.bytes
  have hr := B.returns
  have hts := atoms_spec (ws := wsX3_add) B.pre
  have hown : s.vm.findClass RX3 = some m.cls := findClass_of_methodNamed B.named
  have hlocks := B.notSynchronized
  have hI : IW D (pcC cy A v r ++ X) A0 s.heap s.heap [] := ⟨hP, hD0, va_S.rf⟩
  have in3 : ∀ w ∈ wsX30, w ∈ wsX3_add := fun _ h => List.mem_cons_of_mem _ (List.mem_append_right _ h)
  have hl := lv_entry ([.ref (A 4), .int a1, .int a2]) (n := 3) (Nat.le_of_ble_eq_true rfl)
  have hE : entryFrame m args 3 = F0 m 0 ((lg_sl ([.ref (A 4), .int a1, .int a2]) ++ List.replicate (3 - (lg_sl ([.ref (A 4), .int a1, .int a2])).length) Slot.unset).toArray) [] := by rw [hargs]; exact lg_entry_eq m [.ref (A 4), .int a1, .int a2] 3
  rw [hE]
  generalize (lg_sl ([.ref (A 4), .int a1, .int a2]) ++ List.replicate (3 - (lg_sl ([.ref (A 4), .int a1, .int a2])).length) Slot.unset).toArray = ls at hl ⊢
  have hl : lv_has ls 3 [(0, .ref (A 4)), (1, .int a1), (2, .int a2)] := hl
  unfold f_X3_add at hres
  refine lv_aload_n hx hb dX3_add_0 rfl (lv_at hl 0 rfl) ?_
  refine gC_X3_count hx hb hts in3 hown hK hI (hts (.fieldLink RX3 18 "TrickHouse$Readings" "count" "I") (by decide +kernel)) dX3_add_1 ?_
  refine lv_bipush (v := 8) hx hb dX3_add_4 (by decide) ?_
  refine lv_icmp_lt (tgt := 12) hx hb dX3_add_6 (by decide) (fun c1 => ?_) (fun c1 => ?_)
  · replace hres := (if_pos c1).symm.trans hres
    refine lv_aload_n hx hb dX3_add_12 rfl (lv_at hl 0 rfl) ?_
    refine gC_X3_corners hx hb hts in3 hown hK hI (hts (.fieldLink RX3 9 "TrickHouse$Readings" "corners" "[I") (by decide +kernel)) dX3_add_13 ?_
    refine lv_aload_n hx hb dX3_add_16 rfl (lv_at hl 0 rfl) ?_
    refine gC_X3_count hx hb hts in3 hown hK hI (hts (.fieldLink RX3 18 "TrickHouse$Readings" "count" "I") (by decide +kernel)) dX3_add_17 ?_
    refine lv_iload_n hx hb dX3_add_20 rfl (lv_at hl 1 rfl) ?_
    obtain ⟨g2, hres⟩ := gd hres
    refine th_ist hx hb hK hI 5 0 rfl rfl g2 stC_r5 dX3_add_21 (fun H locs hI => ?_)
    refine lv_aload_n hx hb dX3_add_22 rfl (lv_at hl 0 rfl) ?_
    refine gC_X3_values hx hb hts in3 hown hK hI (hts (.fieldLink RX3 15 "TrickHouse$Readings" "values" "[I") (by decide +kernel)) dX3_add_23 ?_
    refine lv_aload_n hx hb dX3_add_26 rfl (lv_at hl 0 rfl) ?_
    refine gC_X3_count hx hb hts in3 hown hK hI (hts (.fieldLink RX3 18 "TrickHouse$Readings" "count" "I") (by decide +kernel)) dX3_add_27 ?_
    refine lv_iload_n hx hb dX3_add_30 rfl (lv_at hl 2 rfl) ?_
    obtain ⟨g3, hres⟩ := gd hres
    refine th_ist hx hb hK hI 6 0 rfl rfl g3 stC_r6 dX3_add_31 (fun H locs hI => ?_)
    refine lv_aload_n hx hb dX3_add_32 rfl (lv_at hl 0 rfl) ?_
    refine lv_dup hx hb dX3_add_33 rfl ?_
    refine gC_X3_count hx hb hts in3 hown hK hI (hts (.fieldLink RX3 18 "TrickHouse$Readings" "count" "I") (by decide +kernel)) dX3_add_34 ?_
    refine lv_iconst (v := 1) hx hb dX3_add_37 (by decide) ?_
    refine lv_iadd hx hb dX3_add_38 ?_
    refine pC_X3_count hx hb hts in3 hown hK hI (hts (.fieldLink RX3 18 "TrickHouse$Readings" "count" "I") (by decide +kernel)) dX3_add_39 (fun H locs hI => ?_)
    refine lv_aload_n hx hb dX3_add_42 rfl (lv_at hl 0 rfl) ?_
    refine gC_X3_count hx hb hts in3 hown hK hI (hts (.fieldLink RX3 18 "TrickHouse$Readings" "count" "I") (by decide +kernel)) dX3_add_43 ?_
    refine lv_iconst (v := 1) hx hb dX3_add_46 (by decide) ?_
    refine lv_isub hx hb dX3_add_47 ?_
    obtain ⟨rfl, rfl, rfl⟩ := pr3 hres
    exact W.iret hx hb hr (fun t ht hW => ⟨rfl, ⟨by rw [ht]; exact hI.1, va_K.moved hW.alike hK, hI.2.1, NW.warm hW hN⟩, hI.2.2.F ht⟩) hI.2.2.2.2 dX3_add_48
  · replace hres := (if_neg c1).symm.trans hres
    refine lv_bipush (v := (-4)) hx hb dX3_add_9 (by decide) ?_
    obtain ⟨rfl, rfl, rfl⟩ := pr3 hres
    exact W.iret hx hb hr (fun t ht hW => ⟨rfl, ⟨by rw [ht]; exact hI.1, va_K.moved hW.alike hK, hI.2.1, NW.warm hW hN⟩, hI.2.2.F ht⟩) hI.2.2.2.2 dX3_add_11
abbrev rm_X3_allAreSo : Room := { frames := 2, cells := 0, slots := 0, locals := 48 }
def f_X3_allAreSo_2 (v : Nat → Int32) (r : Nat → Nat → Int32) (a1 : Int32) (a2 : Int32) : Nat → Int32 → Option Bool
  | 0, _ => none
  | n2 + 1, x3 => (if (v 6) ≤ x3 then some (true) else if inR x3 8 = true then if inR x3 8 = true then (if (f_X7_carried a2 a1 (r 5 x3.toNatClampNeg)) = (r 6 x3.toNatClampNeg) then f_X3_allAreSo_2 v r a1 a2 n2 (x3 + 1) else some (false)) else none else none)
theorem f_X3_allAreSo_2_s (v : Nat → Int32) (r : Nat → Nat → Int32) (a1 : Int32) (a2 : Int32) (n2 : Nat) (x3 : Int32) : f_X3_allAreSo_2 v r a1 a2 (n2 + 1) x3 = (if (v 6) ≤ x3 then some (true) else if inR x3 8 = true then if inR x3 8 = true then (if (f_X7_carried a2 a1 (r 5 x3.toNatClampNeg)) = (r 6 x3.toNatClampNeg) then f_X3_allAreSo_2 v r a1 a2 n2 (x3 + 1) else some (false)) else none else none) := rfl
def f_X3_allAreSo (v : Nat → Int32) (r : Nat → Nat → Int32) (a1 : Int32) (a2 : Int32) : Option Bool := f_X3_allAreSo_2 v r a1 a2 80 (0 : Int32)
set_option maxHeartbeats 4000000 in
set_option maxRecDepth 100000 in
theorem c_X3_allAreSo (l : Launch) (D : va_G) (cy : Nat → ClassId) (A : Nat → Nat) (X : va_W) (A0 : Nat → Prop) (v : Nat → Int32) (r : Nat → Nat → Int32) (a1 : Int32) (a2 : Int32) (res : Bool) (hres : f_X3_allAreSo v r a1 a2 = some res) : Met l yX3_allAreSo wsX3_allAreSo rm_X3_allAreSo (va_Pc [.ref (A 4), .int a1, .int a2] (GW D (tyC cy) (pcC cy A v r ++ X) A0)) (QR (.int (bI res))) 0 0 (fun _ => False) := by
  refine Met.ofW (cc := cX3_allAreSo) (maxL := 4) (ret := (some .boolean)) (by decide) rfl ?_
  intro p e s m args below meth c s₁ B hml hv
  obtain ⟨hargs, hP, hK, hD0, hN⟩ := hv
  have hx := B.exec
  have hb := B.bytes
  have hr := B.returns
  have hts := atoms_spec (ws := wsX3_allAreSo) B.pre
  have hown : s.vm.findClass RX3 = some m.cls := findClass_of_methodNamed B.named
  have hlocks := B.notSynchronized
  have hI : IW D (pcC cy A v r ++ X) A0 s.heap s.heap [] := ⟨hP, hD0, va_S.rf⟩
  have S : CallFix p m c cX3_allAreSo 4 s args wsX3_allAreSo RX3 := ⟨hx, hb, hml, hown, hts⟩
  have in3 : ∀ w ∈ wsX30, w ∈ wsX3_allAreSo := fun _ h => List.mem_cons_of_mem _ (List.mem_append_right _ h)
  have hl := lv_entry ([.ref (A 4), .int a1, .int a2]) (n := 4) (Nat.le_of_ble_eq_true rfl)
  have hE : entryFrame m args 4 = F0 m 0 ((lg_sl ([.ref (A 4), .int a1, .int a2]) ++ List.replicate (4 - (lg_sl ([.ref (A 4), .int a1, .int a2])).length) Slot.unset).toArray) [] := by rw [hargs]; exact lg_entry_eq m [.ref (A 4), .int a1, .int a2] 4
  rw [hE]
  generalize (lg_sl ([.ref (A 4), .int a1, .int a2]) ++ List.replicate (4 - (lg_sl ([.ref (A 4), .int a1, .int a2])).length) Slot.unset).toArray = ls at hl ⊢
  have hl : lv_has ls 4 [(0, .ref (A 4)), (1, .int a1), (2, .int a2)] := hl
  unfold f_X3_allAreSo at hres
  refine lv_iconst (v := 0) hx hb dX3_allAreSo_0 (by decide) ?_
  refine lv_istore_n (lv' := [(3, .int 0), (0, .ref (A 4)), (1, .int a1), (2, .int a2)]) hx hb dX3_allAreSo_1 rfl hl (by decide) rfl (fun ls hl => ?_)
  have w2 : ∀ (n2 : Nat) (x3 : Int32), f_X3_allAreSo_2 v r a1 a2 n2 x3 = some res → ∀ ls : Array Slot, lv_has ls 4 [(3, .int x3), (0, .ref (A 4)), (1, .int a1), (2, .int a2)] → W p l e (headSpec wsX3_allAreSo rm_X3_allAreSo).room s m args below meth c s.heap [] 0 0 (MQ below (QR (.int (bI res))) args s 0 0 (fun _ => False)) (F0 m 2 ls []) := by
    intro n2
    induction n2 with
    | zero =>
      intro x3  hres
      have hres : (none : Option Bool) = some res := hres
      cases hres
    | succ n2 ih2 =>
      intro x3  hres ls hl
      replace hres := (f_X3_allAreSo_2_s v r a1 a2 n2 x3).symm.trans hres
      refine lv_iload_n hx hb dX3_allAreSo_2 rfl (lv_at hl 0 rfl) ?_
      refine lv_aload_n hx hb dX3_allAreSo_3 rfl (lv_at hl 1 rfl) ?_
      refine gC_X3_count hx hb hts in3 hown hK hI (hts (.fieldLink RX3 18 "TrickHouse$Readings" "count" "I") (by decide +kernel)) dX3_allAreSo_4 ?_
      refine lv_icmp_ge (tgt := 38) hx hb dX3_allAreSo_7 (by decide) (fun c1 => ?_) (fun c1 => ?_)
      · replace hres := (if_pos c1).symm.trans hres
        refine lv_iconst (v := 1) hx hb dX3_allAreSo_38 (by decide) ?_
        obtain rfl := Option.some.inj hres
        exact W.zret hx hb hr rfl (fun t ht hW => ⟨rfl, ht⟩) (fun _ h => absurd h List.not_mem_nil) dX3_allAreSo_39
      · replace hres := (if_neg c1).symm.trans hres
        refine lv_iload_n hx hb dX3_allAreSo_10 rfl (lv_at hl 3 rfl) ?_
        refine lv_iload_n hx hb dX3_allAreSo_11 rfl (lv_at hl 2 rfl) ?_
        refine lv_aload_n hx hb dX3_allAreSo_12 rfl (lv_at hl 1 rfl) ?_
        refine gC_X3_corners hx hb hts in3 hown hK hI (hts (.fieldLink RX3 9 "TrickHouse$Readings" "corners" "[I") (by decide +kernel)) dX3_allAreSo_13 ?_
        refine lv_iload_n hx hb dX3_allAreSo_16 rfl (lv_at hl 0 rfl) ?_
        obtain ⟨g2, hres⟩ := gd hres
        refine th_ild hx hb hK hI 5 0 rfl rfl g2 dX3_allAreSo_17 ?_
        refine pu_n S (c_X7_carried l a2 a1 (r 5 x3.toNatClampNeg) _ rfl) ⟨va_cnB 3 hts gX3_allAreSo_X7_carried_n22 rfl rfl rfl hN.2.2.1 (hts (.initialized RX7) (by decide +kernel)) (by decide +kernel) ⟨Nat.le_of_ble_eq_true rfl, Nat.le_of_ble_eq_true rfl⟩, hts (.static yX7_carried) (by decide +kernel), trivial⟩ hN rfl hl.1 rfl (Nat.le_of_ble_eq_true rfl) dX3_allAreSo_18 ⟨Nat.zero_le _, Nat.zero_le _⟩ ?_
        refine lv_aload_n hx hb dX3_allAreSo_21 rfl (lv_at hl 1 rfl) ?_
        refine gC_X3_values hx hb hts in3 hown hK hI (hts (.fieldLink RX3 15 "TrickHouse$Readings" "values" "[I") (by decide +kernel)) dX3_allAreSo_22 ?_
        refine lv_iload_n hx hb dX3_allAreSo_25 rfl (lv_at hl 0 rfl) ?_
        obtain ⟨g4, hres⟩ := gd hres
        refine th_ild hx hb hK hI 6 0 rfl rfl g4 dX3_allAreSo_26 ?_
        refine lv_icmp_eq (tgt := 32) hx hb dX3_allAreSo_27 (by decide) (fun c5 => ?_) (fun c5 => ?_)
        · replace hres := (if_pos c5).symm.trans hres
          refine lv_iinc (v := (x3 + 1)) (lv' := [(3, .int (x3 + 1)), (0, .ref (A 4)), (1, .int a1), (2, .int a2)]) hx hb dX3_allAreSo_32 hl (k := 0) rfl rfl (by decide) rfl (fun ls hl => ?_)
          refine lv_goto (tgt := 2) hx hb dX3_allAreSo_35 (by decide) ?_
          exact ih2 (x3 + 1) hres ls (lv_sub hl [0, 1, 2, 3] rfl)
        · replace hres := (if_neg c5).symm.trans hres
          refine lv_iconst (v := 0) hx hb dX3_allAreSo_30 (by decide) ?_
          obtain rfl := Option.some.inj hres
          exact W.zret hx hb hr rfl (fun t ht hW => ⟨rfl, ht⟩) (fun _ h => absurd h List.not_mem_nil) dX3_allAreSo_31
  exact w2 80 (0 : Int32) hres ls (lv_sub hl [0, 1, 2, 3] rfl)
abbrev rm_X4_hasNothing : Room := { frames := 0, cells := 0, slots := 0, locals := 0 }
def f_X4_hasNothing (v : Nat → Int32) (r : Nat → Nat → Int32) (k0 : Nat) : Bool := (if (r 10 k0) = (-1) then (true) else (false))
set_option maxHeartbeats 4000000 in
set_option maxRecDepth 100000 in
theorem c_X4_hasNothing (l : Launch) (D : va_G) (cy : Nat → ClassId) (A : Nat → Nat) (X : va_W) (A0 : Nat → Prop) (v : Nat → Int32) (r : Nat → Nat → Int32) (k0 : Nat) (hk0 : k0 < 4) (res : Bool) (hres : f_X4_hasNothing v r k0 = res) : Met l yX4_hasNothing wsX4_hasNothing rm_X4_hasNothing (va_Pc [.ref (A (19 + k0))] (GW D (tyC cy) (pcC cy A v r ++ X) A0)) (QR (.int (bI res))) 0 0 (fun _ => False) := by
  refine Met.ofW (cc := cX4_hasNothing) (maxL := 1) (ret := (some .boolean)) (by decide) rfl ?_
  intro p e s m args below meth c s₁ B hml hv
  obtain ⟨hargs, hP, hK, hD0, hN⟩ := hv
  have hx := B.exec
  have hb := B.bytes
  have hr := B.returns
  have hts := atoms_spec (ws := wsX4_hasNothing) B.pre
  have hown : s.vm.findClass RX4 = some m.cls := findClass_of_methodNamed B.named
  have hlocks := B.notSynchronized
  have hI : IW D (pcC cy A v r ++ X) A0 s.heap s.heap [] := ⟨hP, hD0, va_S.rf⟩
  have in4 : ∀ w ∈ wsX40, w ∈ wsX4_hasNothing := fun _ h => List.mem_cons_of_mem _ (List.mem_append_right _ h)
  have hl := lv_entry ([.ref (A (19 + k0))]) (n := 1) (Nat.le_of_ble_eq_true rfl)
  have hE : entryFrame m args 1 = F0 m 0 ((lg_sl ([.ref (A (19 + k0))]) ++ List.replicate (1 - (lg_sl ([.ref (A (19 + k0))])).length) Slot.unset).toArray) [] := by rw [hargs]; exact lg_entry_eq m [.ref (A (19 + k0))] 1
  rw [hE]
  generalize (lg_sl ([.ref (A (19 + k0))]) ++ List.replicate (1 - (lg_sl ([.ref (A (19 + k0))])).length) Slot.unset).toArray = ls at hl ⊢
  have hl : lv_has ls 1 [(0, .ref (A (19 + k0)))] := hl
  unfold f_X4_hasNothing at hres
  refine lv_aload_n hx hb dX4_hasNothing_0 rfl (lv_at hl 0 rfl) ?_
  refine gC_X4_lane hk0 hx hb hts in4 hown hK hI (hts (.fieldLink RX4 15 "TrickHouse$Sheet" "lane" "I") (by decide +kernel)) dX4_hasNothing_1 ?_
  refine lv_iconst (v := (-1)) hx hb dX4_hasNothing_4 (by decide) ?_
  refine lv_icmp_ne (tgt := 12) hx hb dX4_hasNothing_5 (by decide) (fun c1 => ?_) (fun c1 => ?_)
  · replace hres := (if_neg c1).symm.trans hres
    refine lv_iconst (v := 0) hx hb dX4_hasNothing_12 (by decide) ?_
    obtain rfl := hres
    exact W.zret hx hb hr rfl (fun t ht hW => ⟨rfl, ht⟩) (fun _ h => absurd h List.not_mem_nil) dX4_hasNothing_13
  · replace hres := (if_pos c1).symm.trans hres
    refine lv_iconst (v := 1) hx hb dX4_hasNothing_8 (by decide) ?_
    refine lv_goto (tgt := 13) hx hb dX4_hasNothing_9 (by decide) ?_
    obtain rfl := hres
    exact W.zret hx hb hr rfl (fun t ht hW => ⟨rfl, ht⟩) (fun _ h => absurd h List.not_mem_nil) dX4_hasNothing_13
abbrev rm_X4_clear : Room := { frames := 0, cells := 0, slots := 0, locals := 0 }
def f_X4_clear (v : Nat → Int32) (r : Nat → Nat → Int32) (k0 : Nat) : Option ST := some ((v, (va_up (va_up r 10 (upd (r 10) k0 (-1))) 11 (upd ((va_up r 10 (upd (r 10) k0 (-1))) 11) k0 0))))
set_option maxHeartbeats 4000000 in
set_option maxRecDepth 100000 in
theorem c_X4_clear (l : Launch) (D : va_G) (cy : Nat → ClassId) (A : Nat → Nat) (X : va_W) (A0 : Nat → Prop) (v : Nat → Int32) (r : Nat → Nat → Int32) (k0 : Nat) (hk0 : k0 < 4) (v2 : Nat → Int32) (r2 : Nat → Nat → Int32) (hres : f_X4_clear v r k0 = some (v2, r2)) : Met l yX4_clear wsX4_clear rm_X4_clear (va_Pc [.ref (A (19 + k0))] (GW D (tyC cy) (pcC cy A v r ++ X) A0)) (QW none (GW D (tyC cy) (pcC cy A v2 r2 ++ X) A0) A0) 0 0 A0 := by
  refine Met.ofW (cc := cX4_clear) (maxL := 1) (ret := none) (by decide) rfl ?_
  intro p e s m args below meth c s₁ B hml hv
  obtain ⟨hargs, hP, hK, hD0, hN⟩ := hv
  have hx := B.exec
  have hb := B.bytes
  have hr := B.returns
  have hts := atoms_spec (ws := wsX4_clear) B.pre
  have hown : s.vm.findClass RX4 = some m.cls := findClass_of_methodNamed B.named
  have hlocks := B.notSynchronized
  have hI : IW D (pcC cy A v r ++ X) A0 s.heap s.heap [] := ⟨hP, hD0, va_S.rf⟩
  have in4 : ∀ w ∈ wsX40, w ∈ wsX4_clear := fun _ h => List.mem_cons_of_mem _ (List.mem_append_right _ h)
  have hl := lv_entry ([.ref (A (19 + k0))]) (n := 1) (Nat.le_of_ble_eq_true rfl)
  have hE : entryFrame m args 1 = F0 m 0 ((lg_sl ([.ref (A (19 + k0))]) ++ List.replicate (1 - (lg_sl ([.ref (A (19 + k0))])).length) Slot.unset).toArray) [] := by rw [hargs]; exact lg_entry_eq m [.ref (A (19 + k0))] 1
  rw [hE]
  generalize (lg_sl ([.ref (A (19 + k0))]) ++ List.replicate (1 - (lg_sl ([.ref (A (19 + k0))])).length) Slot.unset).toArray = ls at hl ⊢
  have hl : lv_has ls 1 [(0, .ref (A (19 + k0)))] := hl
  unfold f_X4_clear at hres
  refine lv_aload_n hx hb dX4_clear_0 rfl (lv_at hl 0 rfl) ?_
  refine lv_iconst (v := (-1)) hx hb dX4_clear_1 (by decide) ?_
  refine pC_X4_lane hk0 hx hb hts in4 hown hK hI (hts (.fieldLink RX4 15 "TrickHouse$Sheet" "lane" "I") (by decide +kernel)) dX4_clear_2 (fun H locs hI => ?_)
  refine lv_aload_n hx hb dX4_clear_5 rfl (lv_at hl 0 rfl) ?_
  refine lv_iconst (v := 0) hx hb dX4_clear_6 (by decide) ?_
  refine pC_X4_size hk0 hx hb hts in4 hown hK hI (hts (.fieldLink RX4 19 "TrickHouse$Sheet" "size" "I") (by decide +kernel)) dX4_clear_7 (fun H locs hI => ?_)
  obtain ⟨rfl, rfl⟩ := pr2 hres
  exact W.vret hx hb hr (fun t ht hW => ⟨rfl, ⟨by rw [ht]; exact hI.1, va_K.moved hW.alike hK, hI.2.1, NW.warm hW hN⟩, hI.2.2.F ht⟩) hI.2.2.2.2 dX4_clear_10
abbrev rm_X4_renew : Room := { frames := 1, cells := 0, slots := 0, locals := 24 }
def f_X4_renew_21 (k0 : Nat) (a1 : Int32) (a2 : Int32) : Nat → Int32 → (Nat → Int32) → (Nat → Nat → Int32) → Option ST
  | 0, _, _, _ => none
  | n21 + 1, x3, v, r => (if (r 11 k0) ≤ x3 then some ((v, r)) else if inR x3 60 = true then f_X4_renew_21 k0 a1 a2 n21 (x3 + 1) v (va_up r (12 + k0) (upd (r (12 + k0)) x3.toNatClampNeg 0)) else none)
theorem f_X4_renew_21_s (k0 : Nat) (a1 : Int32) (a2 : Int32) (n21 : Nat) (x3 : Int32) (v : (Nat → Int32)) (r : (Nat → Nat → Int32)) : f_X4_renew_21 k0 a1 a2 (n21 + 1) x3 v r = (if (r 11 k0) ≤ x3 then some ((v, r)) else if inR x3 60 = true then f_X4_renew_21 k0 a1 a2 n21 (x3 + 1) v (va_up r (12 + k0) (upd (r (12 + k0)) x3.toNatClampNeg 0)) else none) := rfl
def f_X4_renew (v : Nat → Int32) (r : Nat → Nat → Int32) (k0 : Nat) (a1 : Int32) (a2 : Int32) : Option ST := f_X4_renew_21 k0 a1 a2 80 (0 : Int32) v (va_up (va_up r 10 (upd (r 10) k0 a1)) 11 (upd ((va_up r 10 (upd (r 10) k0 a1)) 11) k0 (if 0 < (if 60 < a2 then 60 else a2) then (if 60 < a2 then 60 else a2) else 0)))
set_option maxHeartbeats 4000000 in
set_option maxRecDepth 100000 in
theorem c_X4_renew (l : Launch) (D : va_G) (cy : Nat → ClassId) (A : Nat → Nat) (X : va_W) (A0 : Nat → Prop) (v : Nat → Int32) (r : Nat → Nat → Int32) (k0 : Nat) (hk0 : k0 < 4) (a1 : Int32) (a2 : Int32) (v2 : Nat → Int32) (r2 : Nat → Nat → Int32) (hres : f_X4_renew v r k0 a1 a2 = some (v2, r2)) : Met l yX4_renew wsX4_renew rm_X4_renew (va_Pc [.ref (A (19 + k0)), .int a1, .int a2] (GW D (tyC cy) (pcC cy A v r ++ X) A0)) (QW none (GW D (tyC cy) (pcC cy A v2 r2 ++ X) A0) A0) 0 0 A0 := by
  refine Met.ofW (cc := cX4_renew) (maxL := 4) (ret := none) (by decide) rfl ?_
  intro p e s m args below meth c s₁ B hml hv
  obtain ⟨hargs, hP, hK, hD0, hN⟩ := hv
  have hx := B.exec
  have hb := B.bytes
  have hr := B.returns
  have hts := atoms_spec (ws := wsX4_renew) B.pre
  have hown : s.vm.findClass RX4 = some m.cls := findClass_of_methodNamed B.named
  have hlocks := B.notSynchronized
  have hI : IW D (pcC cy A v r ++ X) A0 s.heap s.heap [] := ⟨hP, hD0, va_S.rf⟩
  have in4 : ∀ w ∈ wsX40, w ∈ wsX4_renew := fun _ h => List.mem_cons_of_mem _ (List.mem_append_right _ h)
  have hl := lv_entry ([.ref (A (19 + k0)), .int a1, .int a2]) (n := 4) (Nat.le_of_ble_eq_true rfl)
  have hE : entryFrame m args 4 = F0 m 0 ((lg_sl ([.ref (A (19 + k0)), .int a1, .int a2]) ++ List.replicate (4 - (lg_sl ([.ref (A (19 + k0)), .int a1, .int a2])).length) Slot.unset).toArray) [] := by rw [hargs]; exact lg_entry_eq m [.ref (A (19 + k0)), .int a1, .int a2] 4
  rw [hE]
  generalize (lg_sl ([.ref (A (19 + k0)), .int a1, .int a2]) ++ List.replicate (4 - (lg_sl ([.ref (A (19 + k0)), .int a1, .int a2])).length) Slot.unset).toArray = ls at hl ⊢
  have hl : lv_has ls 4 [(0, .ref (A (19 + k0))), (1, .int a1), (2, .int a2)] := hl
  unfold f_X4_renew at hres
  refine lv_aload_n hx hb dX4_renew_0 rfl (lv_at hl 0 rfl) ?_
  refine lv_iload_n hx hb dX4_renew_1 rfl (lv_at hl 1 rfl) ?_
  refine pC_X4_lane hk0 hx hb hts in4 hown hK hI (hts (.fieldLink RX4 15 "TrickHouse$Sheet" "lane" "I") (by decide +kernel)) dX4_renew_2 (fun H locs hI => ?_)
  refine lv_aload_n hx hb dX4_renew_5 rfl (lv_at hl 0 rfl) ?_
  refine lv_iconst (v := 0) hx hb dX4_renew_6 (by decide) ?_
  refine lv_iload_n hx hb dX4_renew_7 rfl (lv_at hl 2 rfl) ?_
  refine lv_bipush (v := 60) hx hb dX4_renew_8 (by decide) ?_
  refine va_mmin hx hb (hml.trans hl.1.symm) hown (hts (.methodLink RX4 22 Lib.Math.min.name) (by decide +kernel)) (hts (.static Lib.Math.min.name) (by decide +kernel)) (hts (.initialized "java/lang/Math") (by decide +kernel)) (hts (.code Lib.Math.min.name Lib.Math.min.code 2 (some .int)) (List.mem_of_getElem? (i := 5) rfl)) (Nat.le_of_ble_eq_true rfl) (Nat.le_of_ble_eq_true rfl) (Nat.zero_le _) (Nat.zero_le _) dX4_renew_10 ?_
  refine va_mmax hx hb (hml.trans hl.1.symm) hown (hts (.methodLink RX4 28 Lib.Math.max.name) (by decide +kernel)) (hts (.static Lib.Math.max.name) (by decide +kernel)) (hts (.initialized "java/lang/Math") (by decide +kernel)) (hts (.code Lib.Math.max.name Lib.Math.max.code 2 (some .int)) (List.mem_of_getElem? (i := 8) rfl)) (Nat.le_of_ble_eq_true rfl) (Nat.le_of_ble_eq_true rfl) (Nat.zero_le _) (Nat.zero_le _) dX4_renew_13 ?_
  refine pC_X4_size hk0 hx hb hts in4 hown hK hI (hts (.fieldLink RX4 19 "TrickHouse$Sheet" "size" "I") (by decide +kernel)) dX4_renew_16 (fun H locs hI => ?_)
  refine lv_iconst (v := 0) hx hb dX4_renew_19 (by decide) ?_
  refine lv_istore_n (lv' := [(3, .int 0), (0, .ref (A (19 + k0))), (1, .int a1), (2, .int a2)]) hx hb dX4_renew_20 rfl hl (by decide) rfl (fun ls hl => ?_)
  have w21 : ∀ (n21 : Nat) (x3 : Int32) (v : (Nat → Int32)) (r : (Nat → Nat → Int32)), ∀ (H : Heap) (locs : List Loc), IW D (pcC cy A v r ++ X) A0 s.heap H locs → f_X4_renew_21 k0 a1 a2 n21 x3 v r = some (v2, r2) → ∀ ls : Array Slot, lv_has ls 4 [(3, .int x3), (0, .ref (A (19 + k0)))] → W p l e (headSpec wsX4_renew rm_X4_renew).room s m args below meth c H locs 0 0 (MQ below (QW none (GW D (tyC cy) (pcC cy A v2 r2 ++ X) A0) A0) args s 0 0 A0) (F0 m 21 ls []) := by
    intro n21
    induction n21 with
    | zero =>
      intro x3 v r H locs hI hres
      have hres : (none : Option ST) = some (v2, r2) := hres
      cases hres
    | succ n21 ih21 =>
      intro x3 v r H locs hI hres ls hl
      replace hres := (f_X4_renew_21_s k0 a1 a2 n21 x3 v r).symm.trans hres
      refine lv_iload_n hx hb dX4_renew_21 rfl (lv_at hl 0 rfl) ?_
      refine lv_aload_n hx hb dX4_renew_22 rfl (lv_at hl 1 rfl) ?_
      refine gC_X4_size hk0 hx hb hts in4 hown hK hI (hts (.fieldLink RX4 19 "TrickHouse$Sheet" "size" "I") (by decide +kernel)) dX4_renew_23 ?_
      refine lv_icmp_ge (tgt := 42) hx hb dX4_renew_26 (by decide) (fun c1 => ?_) (fun c1 => ?_)
      · replace hres := (if_pos c1).symm.trans hres
        obtain ⟨rfl, rfl⟩ := pr2 hres
        exact W.vret hx hb hr (fun t ht hW => ⟨rfl, ⟨by rw [ht]; exact hI.1, va_K.moved hW.alike hK, hI.2.1, NW.warm hW hN⟩, hI.2.2.F ht⟩) hI.2.2.2.2 dX4_renew_42
      · replace hres := (if_neg c1).symm.trans hres
        refine lv_aload_n hx hb dX4_renew_29 rfl (lv_at hl 1 rfl) ?_
        refine gC_X4_cells hk0 hx hb hts in4 hown hK hI (hts (.fieldLink RX4 9 "TrickHouse$Sheet" "cells" "[I") (by decide +kernel)) dX4_renew_30 ?_
        refine lv_iload_n hx hb dX4_renew_33 rfl (lv_at hl 0 rfl) ?_
        refine lv_iconst (v := 0) hx hb dX4_renew_34 (by decide) ?_
        obtain ⟨g2, hres⟩ := gd hres
        refine th_ist hx hb hK hI (23 + k0) 0 (atC_cells hk0) rfl g2 (stC_cells hk0) dX4_renew_35 (fun H locs hI => ?_)
        refine lv_iinc (v := (x3 + 1)) (lv' := [(3, .int (x3 + 1)), (0, .ref (A (19 + k0)))]) hx hb dX4_renew_36 hl (k := 0) rfl rfl (by decide) rfl (fun ls hl => ?_)
        refine lv_goto (tgt := 21) hx hb dX4_renew_39 (by decide) ?_
        exact ih21 (x3 + 1) v (va_up r (12 + k0) (upd (r (12 + k0)) x3.toNatClampNeg 0)) _ _ hI hres ls (lv_sub hl [0, 1] rfl)
  exact w21 80 (0 : Int32) v (va_up (va_up r 10 (upd (r 10) k0 a1)) 11 (upd ((va_up r 10 (upd (r 10) k0 a1)) 11) k0 (if 0 < (if 60 < a2 then 60 else a2) then (if 60 < a2 then 60 else a2) else 0))) _ _ hI hres ls (lv_sub hl [0, 1] rfl)
abbrev rm_X4_holds : Room := { frames := 0, cells := 0, slots := 0, locals := 0 }
def f_X4_holds (v : Nat → Int32) (r : Nat → Nat → Int32) (k0 : Nat) (a1 : Int32) (a2 : Int32) : Bool := (if a1 < 0 then (false) else (if (r 11 k0) < a1 then (false) else (if a2 < 0 then (false) else (if ((r 11 k0) - a1) < a2 then (false) else (true)))))
set_option maxHeartbeats 4000000 in
set_option maxRecDepth 100000 in
theorem c_X4_holds (l : Launch) (D : va_G) (cy : Nat → ClassId) (A : Nat → Nat) (X : va_W) (A0 : Nat → Prop) (v : Nat → Int32) (r : Nat → Nat → Int32) (k0 : Nat) (hk0 : k0 < 4) (a1 : Int32) (a2 : Int32) (res : Bool) (hres : f_X4_holds v r k0 a1 a2 = res) : Met l yX4_holds wsX4_holds rm_X4_holds (va_Pc [.ref (A (19 + k0)), .int a1, .int a2] (GW D (tyC cy) (pcC cy A v r ++ X) A0)) (QR (.int (bI res))) 0 0 (fun _ => False) := by
  refine Met.ofW (cc := cX4_holds) (maxL := 3) (ret := (some .boolean)) (by decide) rfl ?_
  intro p e s m args below meth c s₁ B hml hv
  obtain ⟨hargs, hP, hK, hD0, hN⟩ := hv
  have hx := B.exec
  have hb := B.bytes
  have hr := B.returns
  have hts := atoms_spec (ws := wsX4_holds) B.pre
  have hown : s.vm.findClass RX4 = some m.cls := findClass_of_methodNamed B.named
  have hlocks := B.notSynchronized
  have hI : IW D (pcC cy A v r ++ X) A0 s.heap s.heap [] := ⟨hP, hD0, va_S.rf⟩
  have in4 : ∀ w ∈ wsX40, w ∈ wsX4_holds := fun _ h => List.mem_cons_of_mem _ (List.mem_append_right _ h)
  have hl := lv_entry ([.ref (A (19 + k0)), .int a1, .int a2]) (n := 3) (Nat.le_of_ble_eq_true rfl)
  have hE : entryFrame m args 3 = F0 m 0 ((lg_sl ([.ref (A (19 + k0)), .int a1, .int a2]) ++ List.replicate (3 - (lg_sl ([.ref (A (19 + k0)), .int a1, .int a2])).length) Slot.unset).toArray) [] := by rw [hargs]; exact lg_entry_eq m [.ref (A (19 + k0)), .int a1, .int a2] 3
  rw [hE]
  generalize (lg_sl ([.ref (A (19 + k0)), .int a1, .int a2]) ++ List.replicate (3 - (lg_sl ([.ref (A (19 + k0)), .int a1, .int a2])).length) Slot.unset).toArray = ls at hl ⊢
  have hl : lv_has ls 3 [(0, .ref (A (19 + k0))), (1, .int a1), (2, .int a2)] := hl
  unfold f_X4_holds at hres
  refine lv_iload_n hx hb dX4_holds_0 rfl (lv_at hl 1 rfl) ?_
  refine lv_if_lt (tgt := 30) hx hb dX4_holds_1 (by decide) (fun c1 => ?_) (fun c1 => ?_)
  · replace hres := (if_pos c1).symm.trans hres
    refine lv_iconst (v := 0) hx hb dX4_holds_30 (by decide) ?_
    obtain rfl := hres
    exact W.zret hx hb hr rfl (fun t ht hW => ⟨rfl, ht⟩) (fun _ h => absurd h List.not_mem_nil) dX4_holds_31
  · replace hres := (if_neg c1).symm.trans hres
    refine lv_iload_n hx hb dX4_holds_4 rfl (lv_at hl 1 rfl) ?_
    refine lv_aload_n hx hb dX4_holds_5 rfl (lv_at hl 0 rfl) ?_
    refine gC_X4_size hk0 hx hb hts in4 hown hK hI (hts (.fieldLink RX4 19 "TrickHouse$Sheet" "size" "I") (by decide +kernel)) dX4_holds_6 ?_
    refine lv_icmp_gt (tgt := 30) hx hb dX4_holds_9 (by decide) (fun c2 => ?_) (fun c2 => ?_)
    · replace hres := (if_pos c2).symm.trans hres
      refine lv_iconst (v := 0) hx hb dX4_holds_30 (by decide) ?_
      obtain rfl := hres
      exact W.zret hx hb hr rfl (fun t ht hW => ⟨rfl, ht⟩) (fun _ h => absurd h List.not_mem_nil) dX4_holds_31
    · replace hres := (if_neg c2).symm.trans hres
      refine lv_iload_n hx hb dX4_holds_12 rfl (lv_at hl 2 rfl) ?_
      refine lv_if_lt (tgt := 30) hx hb dX4_holds_13 (by decide) (fun c3 => ?_) (fun c3 => ?_)
      · replace hres := (if_pos c3).symm.trans hres
        refine lv_iconst (v := 0) hx hb dX4_holds_30 (by decide) ?_
        obtain rfl := hres
        exact W.zret hx hb hr rfl (fun t ht hW => ⟨rfl, ht⟩) (fun _ h => absurd h List.not_mem_nil) dX4_holds_31
      · replace hres := (if_neg c3).symm.trans hres
        refine lv_iload_n hx hb dX4_holds_16 rfl (lv_at hl 2 rfl) ?_
        refine lv_aload_n hx hb dX4_holds_17 rfl (lv_at hl 0 rfl) ?_
        refine gC_X4_size hk0 hx hb hts in4 hown hK hI (hts (.fieldLink RX4 19 "TrickHouse$Sheet" "size" "I") (by decide +kernel)) dX4_holds_18 ?_
        refine lv_iload_n hx hb dX4_holds_21 rfl (lv_at hl 1 rfl) ?_
        refine lv_isub hx hb dX4_holds_22 ?_
        refine lv_icmp_gt (tgt := 30) hx hb dX4_holds_23 (by decide) (fun c4 => ?_) (fun c4 => ?_)
        · replace hres := (if_pos c4).symm.trans hres
          refine lv_iconst (v := 0) hx hb dX4_holds_30 (by decide) ?_
          obtain rfl := hres
          exact W.zret hx hb hr rfl (fun t ht hW => ⟨rfl, ht⟩) (fun _ h => absurd h List.not_mem_nil) dX4_holds_31
        · replace hres := (if_neg c4).symm.trans hres
          refine lv_iconst (v := 1) hx hb dX4_holds_26 (by decide) ?_
          refine lv_goto (tgt := 31) hx hb dX4_holds_27 (by decide) ?_
          obtain rfl := hres
          exact W.zret hx hb hr rfl (fun t ht hW => ⟨rfl, ht⟩) (fun _ h => absurd h List.not_mem_nil) dX4_holds_31
abbrev rm_X4_faultOfTaking : Room := { frames := 1, cells := 0, slots := 0, locals := 22 }
def f_X4_faultOfTaking (v : Nat → Int32) (r : Nat → Nat → Int32) (k0 : Nat) (a1 : Int32) (a2 : Int32) (a3 : Int32) : Int32 := (if (f_X4_hasNothing v r k0) = true then (1) else (if (r 10 k0) = a1 then (if 0 ≤ a3 then (if (f_X4_holds v r k0 a2 a3) = true then (0) else (3)) else (4)) else (2)))
set_option maxHeartbeats 4000000 in
set_option maxRecDepth 100000 in
theorem c_X4_faultOfTaking (l : Launch) (D : va_G) (cy : Nat → ClassId) (A : Nat → Nat) (X : va_W) (A0 : Nat → Prop) (v : Nat → Int32) (r : Nat → Nat → Int32) (k0 : Nat) (hk0 : k0 < 4) (a1 : Int32) (a2 : Int32) (a3 : Int32) (res : Int32) (hres : f_X4_faultOfTaking v r k0 a1 a2 a3 = res) : Met l yX4_faultOfTaking wsX4_faultOfTaking rm_X4_faultOfTaking (va_Pc [.ref (A (19 + k0)), .int a1, .int a2, .int a3] (GW D (tyC cy) (pcC cy A v r ++ X) A0)) (QR (.int res)) 0 0 (fun _ => False) := by
  refine Met.ofW (cc := cX4_faultOfTaking) (maxL := 4) (ret := (some .int)) (by decide) rfl ?_
  intro p e s m args below meth c s₁ B hml hv
  obtain ⟨hargs, hP, hK, hD0, hN⟩ := hv
  have hx := B.exec
  have hb := B.bytes
  have hr := B.returns
  have hts := atoms_spec (ws := wsX4_faultOfTaking) B.pre
  have hown : s.vm.findClass RX4 = some m.cls := findClass_of_methodNamed B.named
  have hlocks := B.notSynchronized
  have hI : IW D (pcC cy A v r ++ X) A0 s.heap s.heap [] := ⟨hP, hD0, va_S.rf⟩
  have S : CallFix p m c cX4_faultOfTaking 4 s args wsX4_faultOfTaking RX4 := ⟨hx, hb, hml, hown, hts⟩
  have in4 : ∀ w ∈ wsX40, w ∈ wsX4_faultOfTaking := fun _ h => List.mem_cons_of_mem _ (List.mem_append_right _ h)
  have hl := lv_entry ([.ref (A (19 + k0)), .int a1, .int a2, .int a3]) (n := 4) (Nat.le_of_ble_eq_true rfl)
  have hE : entryFrame m args 4 = F0 m 0 ((lg_sl ([.ref (A (19 + k0)), .int a1, .int a2, .int a3]) ++ List.replicate (4 - (lg_sl ([.ref (A (19 + k0)), .int a1, .int a2, .int a3])).length) Slot.unset).toArray) [] := by rw [hargs]; exact lg_entry_eq m [.ref (A (19 + k0)), .int a1, .int a2, .int a3] 4
  rw [hE]
  generalize (lg_sl ([.ref (A (19 + k0)), .int a1, .int a2, .int a3]) ++ List.replicate (4 - (lg_sl ([.ref (A (19 + k0)), .int a1, .int a2, .int a3])).length) Slot.unset).toArray = ls at hl ⊢
  have hl : lv_has ls 4 [(0, .ref (A (19 + k0))), (1, .int a1), (2, .int a2), (3, .int a3)] := hl
  unfold f_X4_faultOfTaking at hres
  refine lv_aload_n hx hb dX4_faultOfTaking_0 rfl (lv_at hl 0 rfl) ?_
  refine ro_v S (c_X4_hasNothing l D cy A X A0 v r k0 hk0 _ rfl) (cwV 0 hts gX4_faultOfTaking_X4_hasNothing rfl rfl rfl (by decide +kernel) ⟨Nat.le_of_ble_eq_true rfl, Nat.le_of_ble_eq_true rfl⟩) hI hK hN (ci := 4) rfl (atC_sh hk0) rfl rfl hl.1 rfl (Nat.le_of_ble_eq_true rfl) dX4_faultOfTaking_1 ⟨Nat.zero_le _, Nat.zero_le _⟩ ?_
  refine lv_if_eq (tgt := 9) hx hb dX4_faultOfTaking_4 (by decide) (fun c2 => ?_) (fun c2 => ?_)
  · replace hres := (if_neg (bI_f c2)).symm.trans hres
    refine lv_aload_n hx hb dX4_faultOfTaking_9 rfl (lv_at hl 0 rfl) ?_
    refine gC_X4_lane hk0 hx hb hts in4 hown hK hI (hts (.fieldLink RX4 15 "TrickHouse$Sheet" "lane" "I") (by decide +kernel)) dX4_faultOfTaking_10 ?_
    refine lv_iload_n hx hb dX4_faultOfTaking_13 rfl (lv_at hl 1 rfl) ?_
    refine lv_icmp_eq (tgt := 19) hx hb dX4_faultOfTaking_14 (by decide) (fun c3 => ?_) (fun c3 => ?_)
    · replace hres := (if_pos c3).symm.trans hres
      refine lv_iload_n hx hb dX4_faultOfTaking_19 rfl (lv_at hl 3 rfl) ?_
      refine lv_if_ge (tgt := 25) hx hb dX4_faultOfTaking_20 (by decide) (fun c4 => ?_) (fun c4 => ?_)
      · replace hres := (if_pos c4).symm.trans hres
        refine lv_aload_n hx hb dX4_faultOfTaking_25 rfl (lv_at hl 0 rfl) ?_
        refine lv_iload_n hx hb dX4_faultOfTaking_26 rfl (lv_at hl 2 rfl) ?_
        refine lv_iload_n hx hb dX4_faultOfTaking_27 rfl (lv_at hl 3 rfl) ?_
        refine ro_v S (c_X4_holds l D cy A X A0 v r k0 hk0 a2 a3 _ rfl) (cwV 2 hts gX4_faultOfTaking_X4_holds rfl rfl rfl (by decide +kernel) ⟨Nat.le_of_ble_eq_true rfl, Nat.le_of_ble_eq_true rfl⟩) hI hK hN (ci := 4) rfl (atC_sh hk0) rfl rfl hl.1 rfl (Nat.le_of_ble_eq_true rfl) dX4_faultOfTaking_28 ⟨Nat.zero_le _, Nat.zero_le _⟩ ?_
        refine lv_if_eq (tgt := 38) hx hb dX4_faultOfTaking_31 (by decide) (fun c6 => ?_) (fun c6 => ?_)
        · replace hres := (if_neg (bI_f c6)).symm.trans hres
          refine lv_iconst (v := 3) hx hb dX4_faultOfTaking_38 (by decide) ?_
          obtain rfl := hres
          exact W.iret hx hb hr (fun t ht hW => ⟨rfl, ht⟩) (fun _ h => absurd h List.not_mem_nil) dX4_faultOfTaking_39
        · replace hres := (if_pos (bI_t c6)).symm.trans hres
          refine lv_iconst (v := 0) hx hb dX4_faultOfTaking_34 (by decide) ?_
          refine lv_goto (tgt := 39) hx hb dX4_faultOfTaking_35 (by decide) ?_
          obtain rfl := hres
          exact W.iret hx hb hr (fun t ht hW => ⟨rfl, ht⟩) (fun _ h => absurd h List.not_mem_nil) dX4_faultOfTaking_39
      · replace hres := (if_neg c4).symm.trans hres
        refine lv_iconst (v := 4) hx hb dX4_faultOfTaking_23 (by decide) ?_
        obtain rfl := hres
        exact W.iret hx hb hr (fun t ht hW => ⟨rfl, ht⟩) (fun _ h => absurd h List.not_mem_nil) dX4_faultOfTaking_24
    · replace hres := (if_neg c3).symm.trans hres
      refine lv_iconst (v := 2) hx hb dX4_faultOfTaking_17 (by decide) ?_
      obtain rfl := hres
      exact W.iret hx hb hr (fun t ht hW => ⟨rfl, ht⟩) (fun _ h => absurd h List.not_mem_nil) dX4_faultOfTaking_18
  · replace hres := (if_pos (bI_t c2)).symm.trans hres
    refine lv_iconst (v := 1) hx hb dX4_faultOfTaking_7 (by decide) ?_
    obtain rfl := hres
    exact W.iret hx hb hr (fun t ht hW => ⟨rfl, ht⟩) (fun _ h => absurd h List.not_mem_nil) dX4_faultOfTaking_8
abbrev rm_X4_at : Room := { frames := 0, cells := 0, slots := 0, locals := 0 }
def f_X4_at (v : Nat → Int32) (r : Nat → Nat → Int32) (k0 : Nat) (a1 : Int32) : Option Int32 := (if a1 < 0 then some (0) else (if (r 11 k0) ≤ a1 then some (0) else if inR a1 60 = true then some ((r (12 + k0) a1.toNatClampNeg)) else none))
set_option maxHeartbeats 4000000 in
set_option maxRecDepth 100000 in
theorem c_X4_at (l : Launch) (D : va_G) (cy : Nat → ClassId) (A : Nat → Nat) (X : va_W) (A0 : Nat → Prop) (v : Nat → Int32) (r : Nat → Nat → Int32) (k0 : Nat) (hk0 : k0 < 4) (a1 : Int32) (res : Int32) (hres : f_X4_at v r k0 a1 = some res) : Met l yX4_at wsX4_at rm_X4_at (va_Pc [.ref (A (19 + k0)), .int a1] (GW D (tyC cy) (pcC cy A v r ++ X) A0)) (QR (.int res)) 0 0 (fun _ => False) := by
  refine Met.ofW (cc := cX4_at) (maxL := 2) (ret := (some .int)) (by decide) rfl ?_
  intro p e s m args below meth c s₁ B hml hv
  obtain ⟨hargs, hP, hK, hD0, hN⟩ := hv
  have hx := B.exec
  have hb := B.bytes
  have hr := B.returns
  have hts := atoms_spec (ws := wsX4_at) B.pre
  have hown : s.vm.findClass RX4 = some m.cls := findClass_of_methodNamed B.named
  have hlocks := B.notSynchronized
  have hI : IW D (pcC cy A v r ++ X) A0 s.heap s.heap [] := ⟨hP, hD0, va_S.rf⟩
  have in4 : ∀ w ∈ wsX40, w ∈ wsX4_at := fun _ h => List.mem_cons_of_mem _ (List.mem_append_right _ h)
  have hl := lv_entry ([.ref (A (19 + k0)), .int a1]) (n := 2) (Nat.le_of_ble_eq_true rfl)
  have hE : entryFrame m args 2 = F0 m 0 ((lg_sl ([.ref (A (19 + k0)), .int a1]) ++ List.replicate (2 - (lg_sl ([.ref (A (19 + k0)), .int a1])).length) Slot.unset).toArray) [] := by rw [hargs]; exact lg_entry_eq m [.ref (A (19 + k0)), .int a1] 2
  rw [hE]
  generalize (lg_sl ([.ref (A (19 + k0)), .int a1]) ++ List.replicate (2 - (lg_sl ([.ref (A (19 + k0)), .int a1])).length) Slot.unset).toArray = ls at hl ⊢
  have hl : lv_has ls 2 [(0, .ref (A (19 + k0))), (1, .int a1)] := hl
  unfold f_X4_at at hres
  refine lv_iload_n hx hb dX4_at_0 rfl (lv_at hl 1 rfl) ?_
  refine lv_if_lt (tgt := 21) hx hb dX4_at_1 (by decide) (fun c1 => ?_) (fun c1 => ?_)
  · replace hres := (if_pos c1).symm.trans hres
    refine lv_iconst (v := 0) hx hb dX4_at_21 (by decide) ?_
    obtain rfl := Option.some.inj hres
    exact W.iret hx hb hr (fun t ht hW => ⟨rfl, ht⟩) (fun _ h => absurd h List.not_mem_nil) dX4_at_22
  · replace hres := (if_neg c1).symm.trans hres
    refine lv_iload_n hx hb dX4_at_4 rfl (lv_at hl 1 rfl) ?_
    refine lv_aload_n hx hb dX4_at_5 rfl (lv_at hl 0 rfl) ?_
    refine gC_X4_size hk0 hx hb hts in4 hown hK hI (hts (.fieldLink RX4 19 "TrickHouse$Sheet" "size" "I") (by decide +kernel)) dX4_at_6 ?_
    refine lv_icmp_ge (tgt := 21) hx hb dX4_at_9 (by decide) (fun c2 => ?_) (fun c2 => ?_)
    · replace hres := (if_pos c2).symm.trans hres
      refine lv_iconst (v := 0) hx hb dX4_at_21 (by decide) ?_
      obtain rfl := Option.some.inj hres
      exact W.iret hx hb hr (fun t ht hW => ⟨rfl, ht⟩) (fun _ h => absurd h List.not_mem_nil) dX4_at_22
    · replace hres := (if_neg c2).symm.trans hres
      refine lv_aload_n hx hb dX4_at_12 rfl (lv_at hl 0 rfl) ?_
      refine gC_X4_cells hk0 hx hb hts in4 hown hK hI (hts (.fieldLink RX4 9 "TrickHouse$Sheet" "cells" "[I") (by decide +kernel)) dX4_at_13 ?_
      refine lv_iload_n hx hb dX4_at_16 rfl (lv_at hl 1 rfl) ?_
      obtain ⟨g3, hres⟩ := gd hres
      refine th_ild hx hb hK hI (23 + k0) 0 (atC_cells hk0) rfl g3 dX4_at_17 ?_
      refine lv_goto (tgt := 22) hx hb dX4_at_18 (by decide) ?_
      obtain rfl := Option.some.inj hres
      exact W.iret hx hb hr (fun t ht hW => ⟨rfl, ht⟩) (fun _ h => absurd h List.not_mem_nil) dX4_at_22
abbrev rm_X4_cut : Room := { frames := 0, cells := 0, slots := 0, locals := 0 }
def f_X4_cut (v : Nat → Int32) (r : Nat → Nat → Int32) (k0 : Nat) (a1 : Int32) : Int32 := (if (r 10 k0) = 0 then (a1.toInt8.toInt32) else (if (r 10 k0) = 1 then (a1.toInt16.toInt32) else (a1)))
set_option maxHeartbeats 4000000 in
set_option maxRecDepth 100000 in
theorem c_X4_cut (l : Launch) (D : va_G) (cy : Nat → ClassId) (A : Nat → Nat) (X : va_W) (A0 : Nat → Prop) (v : Nat → Int32) (r : Nat → Nat → Int32) (k0 : Nat) (hk0 : k0 < 4) (a1 : Int32) (res : Int32) (hres : f_X4_cut v r k0 a1 = res) : Met l yX4_cut wsX4_cut rm_X4_cut (va_Pc [.ref (A (19 + k0)), .int a1] (GW D (tyC cy) (pcC cy A v r ++ X) A0)) (QR (.int res)) 0 0 (fun _ => False) := by
  refine Met.ofW (cc := cX4_cut) (maxL := 2) (ret := (some .int)) (by decide) rfl ?_
  intro p e s m args below meth c s₁ B hml hv
  obtain ⟨hargs, hP, hK, hD0, hN⟩ := hv
  have hx := B.exec
  have hb := B.bytes
  have hr := B.returns
  have hts := atoms_spec (ws := wsX4_cut) B.pre
  have hown : s.vm.findClass RX4 = some m.cls := findClass_of_methodNamed B.named
  have hlocks := B.notSynchronized
  have hI : IW D (pcC cy A v r ++ X) A0 s.heap s.heap [] := ⟨hP, hD0, va_S.rf⟩
  have in4 : ∀ w ∈ wsX40, w ∈ wsX4_cut := fun _ h => List.mem_cons_of_mem _ (List.mem_append_right _ h)
  have hl := lv_entry ([.ref (A (19 + k0)), .int a1]) (n := 2) (Nat.le_of_ble_eq_true rfl)
  have hE : entryFrame m args 2 = F0 m 0 ((lg_sl ([.ref (A (19 + k0)), .int a1]) ++ List.replicate (2 - (lg_sl ([.ref (A (19 + k0)), .int a1])).length) Slot.unset).toArray) [] := by rw [hargs]; exact lg_entry_eq m [.ref (A (19 + k0)), .int a1] 2
  rw [hE]
  generalize (lg_sl ([.ref (A (19 + k0)), .int a1]) ++ List.replicate (2 - (lg_sl ([.ref (A (19 + k0)), .int a1])).length) Slot.unset).toArray = ls at hl ⊢
  have hl : lv_has ls 2 [(0, .ref (A (19 + k0))), (1, .int a1)] := hl
  unfold f_X4_cut at hres
  refine lv_aload_n hx hb dX4_cut_0 rfl (lv_at hl 0 rfl) ?_
  refine gC_X4_lane hk0 hx hb hts in4 hown hK hI (hts (.fieldLink RX4 15 "TrickHouse$Sheet" "lane" "I") (by decide +kernel)) dX4_cut_1 ?_
  by_cases c1 : (r 10 k0) = 0
  · replace hres := (if_pos c1).symm.trans hres
    refine lv_lookup (off := 28) (tgt := 32) hx hb dX4_cut_4 (by decide) (by rw [c1]; decide) (by decide) ?_
    refine lv_iload_n hx hb dX4_cut_32 rfl (lv_at hl 1 rfl) ?_
    refine lv_i2b hx hb dX4_cut_33 rfl ?_
    obtain rfl := hres
    exact W.iret hx hb hr (fun t ht hW => ⟨rfl, ht⟩) (fun _ h => absurd h List.not_mem_nil) dX4_cut_34
  · replace hres := (if_neg c1).symm.trans hres
    by_cases c2 : (r 10 k0) = 1
    · replace hres := (if_pos c2).symm.trans hres
      refine lv_lookup (off := 31) (tgt := 35) hx hb dX4_cut_4 (by decide) (by rw [c2]; decide) (by decide) ?_
      refine lv_iload_n hx hb dX4_cut_35 rfl (lv_at hl 1 rfl) ?_
      refine lv_i2s hx hb dX4_cut_36 rfl ?_
      obtain rfl := hres
      exact W.iret hx hb hr (fun t ht hW => ⟨rfl, ht⟩) (fun _ h => absurd h List.not_mem_nil) dX4_cut_37
    · replace hres := (if_neg c2).symm.trans hres
      refine lv_lookup (off := 34) (tgt := 38) hx hb dX4_cut_4 (by decide) ((lv_osw c1 rfl).trans ((lv_osw c2 rfl).trans rfl)) (by decide) ?_
      refine lv_iload_n hx hb dX4_cut_38 rfl (lv_at hl 1 rfl) ?_
      obtain rfl := hres
      exact W.iret hx hb hr (fun t ht hW => ⟨rfl, ht⟩) (fun _ h => absurd h List.not_mem_nil) dX4_cut_39
abbrev rm_X4_write : Room := { frames := 1, cells := 0, slots := 0, locals := 21 }
def f_X4_write (v : Nat → Int32) (r : Nat → Nat → Int32) (k0 : Nat) (a1 : Int32) (a2 : Int32) : Option ST := (if a1 < 0 then some ((v, r)) else (if (r 11 k0) ≤ a1 then some ((v, r)) else if inR a1 60 = true then some ((v, (va_up r (12 + k0) (upd (r (12 + k0)) a1.toNatClampNeg (f_X4_cut v r k0 a2))))) else none))
set_option maxHeartbeats 4000000 in
set_option maxRecDepth 100000 in
theorem c_X4_write (l : Launch) (D : va_G) (cy : Nat → ClassId) (A : Nat → Nat) (X : va_W) (A0 : Nat → Prop) (v : Nat → Int32) (r : Nat → Nat → Int32) (k0 : Nat) (hk0 : k0 < 4) (a1 : Int32) (a2 : Int32) (v2 : Nat → Int32) (r2 : Nat → Nat → Int32) (hres : f_X4_write v r k0 a1 a2 = some (v2, r2)) : Met l yX4_write wsX4_write rm_X4_write (va_Pc [.ref (A (19 + k0)), .int a1, .int a2] (GW D (tyC cy) (pcC cy A v r ++ X) A0)) (QW none (GW D (tyC cy) (pcC cy A v2 r2 ++ X) A0) A0) 0 0 A0 := by
  refine Met.ofW (cc := cX4_write) (maxL := 3) (ret := none) (by decide) rfl ?_
  intro p e s m args below meth c s₁ B hml hv
  obtain ⟨hargs, hP, hK, hD0, hN⟩ := hv
  have hx := B.exec
  have hb := B.bytes
  have hr := B.returns
  have hts := atoms_spec (ws := wsX4_write) B.pre
  have hown : s.vm.findClass RX4 = some m.cls := findClass_of_methodNamed B.named
  have hlocks := B.notSynchronized
  have hI : IW D (pcC cy A v r ++ X) A0 s.heap s.heap [] := ⟨hP, hD0, va_S.rf⟩
  have S : CallFix p m c cX4_write 3 s args wsX4_write RX4 := ⟨hx, hb, hml, hown, hts⟩
  have in4 : ∀ w ∈ wsX40, w ∈ wsX4_write := fun _ h => List.mem_cons_of_mem _ (List.mem_append_right _ h)
  have hl := lv_entry ([.ref (A (19 + k0)), .int a1, .int a2]) (n := 3) (Nat.le_of_ble_eq_true rfl)
  have hE : entryFrame m args 3 = F0 m 0 ((lg_sl ([.ref (A (19 + k0)), .int a1, .int a2]) ++ List.replicate (3 - (lg_sl ([.ref (A (19 + k0)), .int a1, .int a2])).length) Slot.unset).toArray) [] := by rw [hargs]; exact lg_entry_eq m [.ref (A (19 + k0)), .int a1, .int a2] 3
  rw [hE]
  generalize (lg_sl ([.ref (A (19 + k0)), .int a1, .int a2]) ++ List.replicate (3 - (lg_sl ([.ref (A (19 + k0)), .int a1, .int a2])).length) Slot.unset).toArray = ls at hl ⊢
  have hl : lv_has ls 3 [(0, .ref (A (19 + k0))), (1, .int a1), (2, .int a2)] := hl
  unfold f_X4_write at hres
  refine lv_iload_n hx hb dX4_write_0 rfl (lv_at hl 1 rfl) ?_
  refine lv_if_lt (tgt := 23) hx hb dX4_write_1 (by decide) (fun c1 => ?_) (fun c1 => ?_)
  · replace hres := (if_pos c1).symm.trans hres
    obtain ⟨rfl, rfl⟩ := pr2 hres
    exact W.vret hx hb hr (fun t ht hW => ⟨rfl, ⟨by rw [ht]; exact hI.1, va_K.moved hW.alike hK, hI.2.1, NW.warm hW hN⟩, hI.2.2.F ht⟩) hI.2.2.2.2 dX4_write_23
  · replace hres := (if_neg c1).symm.trans hres
    refine lv_iload_n hx hb dX4_write_4 rfl (lv_at hl 1 rfl) ?_
    refine lv_aload_n hx hb dX4_write_5 rfl (lv_at hl 0 rfl) ?_
    refine gC_X4_size hk0 hx hb hts in4 hown hK hI (hts (.fieldLink RX4 19 "TrickHouse$Sheet" "size" "I") (by decide +kernel)) dX4_write_6 ?_
    refine lv_icmp_ge (tgt := 23) hx hb dX4_write_9 (by decide) (fun c2 => ?_) (fun c2 => ?_)
    · replace hres := (if_pos c2).symm.trans hres
      obtain ⟨rfl, rfl⟩ := pr2 hres
      exact W.vret hx hb hr (fun t ht hW => ⟨rfl, ⟨by rw [ht]; exact hI.1, va_K.moved hW.alike hK, hI.2.1, NW.warm hW hN⟩, hI.2.2.F ht⟩) hI.2.2.2.2 dX4_write_23
    · replace hres := (if_neg c2).symm.trans hres
      refine lv_aload_n hx hb dX4_write_12 rfl (lv_at hl 0 rfl) ?_
      refine gC_X4_cells hk0 hx hb hts in4 hown hK hI (hts (.fieldLink RX4 9 "TrickHouse$Sheet" "cells" "[I") (by decide +kernel)) dX4_write_13 ?_
      refine lv_iload_n hx hb dX4_write_16 rfl (lv_at hl 1 rfl) ?_
      refine lv_aload_n hx hb dX4_write_17 rfl (lv_at hl 0 rfl) ?_
      refine lv_iload_n hx hb dX4_write_18 rfl (lv_at hl 2 rfl) ?_
      refine ro_v S (c_X4_cut l D cy A X A0 v r k0 hk0 a2 _ rfl) (cwV 1 hts gX4_write_X4_cut rfl rfl rfl (by decide +kernel) ⟨Nat.le_of_ble_eq_true rfl, Nat.le_of_ble_eq_true rfl⟩) hI hK hN (ci := 4) rfl (atC_sh hk0) rfl rfl hl.1 rfl (Nat.le_of_ble_eq_true rfl) dX4_write_19 ⟨Nat.zero_le _, Nat.zero_le _⟩ ?_
      obtain ⟨g4, hres⟩ := gd hres
      refine th_ist hx hb hK hI (23 + k0) 0 (atC_cells hk0) rfl g4 (stC_cells hk0) dX4_write_22 (fun H locs hI => ?_)
      obtain ⟨rfl, rfl⟩ := pr2 hres
      exact W.vret hx hb hr (fun t ht hW => ⟨rfl, ⟨by rw [ht]; exact hI.1, va_K.moved hW.alike hK, hI.2.1, NW.warm hW hN⟩, hI.2.2.F ht⟩) hI.2.2.2.2 dX4_write_23
abbrev rm_X5_kindOf : Room := { frames := 0, cells := 0, slots := 0, locals := 0 }
def f_X5_kindOf (a0 : Int32) : Int32 := (if a0 = 98 then (1) else (if a0 = 112 then (2) else (if a0 = 116 then (0) else ((-9)))))
set_option maxHeartbeats 4000000 in
set_option maxRecDepth 100000 in
theorem c_X5_kindOf (l : Launch) (a0 : Int32) (res : Int32) (hres : f_X5_kindOf a0 = res) : Met l yX5_kindOf wsX5_kindOf rm_X5_kindOf (va_Pc [.int a0] NW) (QR (.int res)) 0 0 (fun _ => False) := by
  refine Met.ofW (cc := cX5_kindOf) (maxL := 1) (ret := (some .int)) (by decide) rfl ?_
  intro p e s m args below meth c s₁ B hml hv
  obtain ⟨hargs, hN⟩ := hv
  have hx := B.exec
  have hb := B.bytes
  have hr := B.returns
  have hts := atoms_spec (ws := wsX5_kindOf) B.pre
  have hown : s.vm.findClass RX5 = some m.cls := findClass_of_methodNamed B.named
  have hlocks := B.notSynchronized
  have hl := lv_entry ([.int a0]) (n := 1) (Nat.le_of_ble_eq_true rfl)
  have hE : entryFrame m args 1 = F0 m 0 ((lg_sl ([.int a0]) ++ List.replicate (1 - (lg_sl ([.int a0])).length) Slot.unset).toArray) [] := by rw [hargs]; exact lg_entry_eq m [.int a0] 1
  rw [hE]
  generalize (lg_sl ([.int a0]) ++ List.replicate (1 - (lg_sl ([.int a0])).length) Slot.unset).toArray = ls at hl ⊢
  have hl : lv_has ls 1 [(0, .int a0)] := hl
  unfold f_X5_kindOf at hres
  refine lv_iload_n hx hb dX5_kindOf_0 rfl (lv_at hl 0 rfl) ?_
  by_cases c1 : a0 = 98
  · replace hres := (if_pos c1).symm.trans hres
    refine lv_lookup (off := 37) (tgt := 38) hx hb dX5_kindOf_1 (by decide) (by rw [c1]; decide) (by decide) ?_
    refine lv_iconst (v := 1) hx hb dX5_kindOf_38 (by decide) ?_
    obtain rfl := hres
    exact W.iret hx hb hr (fun t ht hW => ⟨rfl, ht⟩) (fun _ h => absurd h List.not_mem_nil) dX5_kindOf_39
  · replace hres := (if_neg c1).symm.trans hres
    by_cases c2 : a0 = 112
    · replace hres := (if_pos c2).symm.trans hres
      refine lv_lookup (off := 39) (tgt := 40) hx hb dX5_kindOf_1 (by decide) (by rw [c2]; decide) (by decide) ?_
      refine lv_iconst (v := 2) hx hb dX5_kindOf_40 (by decide) ?_
      obtain rfl := hres
      exact W.iret hx hb hr (fun t ht hW => ⟨rfl, ht⟩) (fun _ h => absurd h List.not_mem_nil) dX5_kindOf_41
    · replace hres := (if_neg c2).symm.trans hres
      by_cases c3 : a0 = 116
      · replace hres := (if_pos c3).symm.trans hres
        refine lv_lookup (off := 35) (tgt := 36) hx hb dX5_kindOf_1 (by decide) (by rw [c3]; decide) (by decide) ?_
        refine lv_iconst (v := 0) hx hb dX5_kindOf_36 (by decide) ?_
        obtain rfl := hres
        exact W.iret hx hb hr (fun t ht hW => ⟨rfl, ht⟩) (fun _ h => absurd h List.not_mem_nil) dX5_kindOf_37
      · replace hres := (if_neg c3).symm.trans hres
        refine lv_lookup (off := 41) (tgt := 42) hx hb dX5_kindOf_1 (by decide) ((lv_osw c1 rfl).trans ((lv_osw c2 rfl).trans ((lv_osw c3 rfl).trans rfl))) (by decide) ?_
        refine lv_bipush (v := (-9)) hx hb dX5_kindOf_42 (by decide) ?_
        obtain rfl := hres
        exact W.iret hx hb hr (fun t ht hW => ⟨rfl, ht⟩) (fun _ h => absurd h List.not_mem_nil) dX5_kindOf_44
abbrev rm_X5_isDigit : Room := { frames := 1, cells := 0, slots := 0, locals := 22 }
def f_X5_isDigit (a0 : Int32) (a1 : Int32) (a2 : Int32) : Bool := ((f_X7_within a0 (48 + a1) (48 + a2)))
set_option maxHeartbeats 4000000 in
set_option maxRecDepth 100000 in
theorem c_X5_isDigit (l : Launch) (a0 : Int32) (a1 : Int32) (a2 : Int32) (res : Bool) (hres : f_X5_isDigit a0 a1 a2 = res) : Met l yX5_isDigit wsX5_isDigit rm_X5_isDigit (va_Pc [.int a0, .int a1, .int a2] NW) (QR (.int (bI res))) 0 0 (fun _ => False) := by
  refine Met.ofW (cc := cX5_isDigit) (maxL := 3) (ret := (some .boolean)) (by decide) rfl ?_
  intro p e s m args below meth c s₁ B hml hv
  obtain ⟨hargs, hN⟩ := hv
  have hx := B.exec
  have hb := B.bytes
  have hr := B.returns
  have hts := atoms_spec (ws := wsX5_isDigit) B.pre
  have hown : s.vm.findClass RX5 = some m.cls := findClass_of_methodNamed B.named
  have hlocks := B.notSynchronized
  have S : CallFix p m c cX5_isDigit 3 s args wsX5_isDigit RX5 := ⟨hx, hb, hml, hown, hts⟩
  have hl := lv_entry ([.int a0, .int a1, .int a2]) (n := 3) (Nat.le_of_ble_eq_true rfl)
  have hE : entryFrame m args 3 = F0 m 0 ((lg_sl ([.int a0, .int a1, .int a2]) ++ List.replicate (3 - (lg_sl ([.int a0, .int a1, .int a2])).length) Slot.unset).toArray) [] := by rw [hargs]; exact lg_entry_eq m [.int a0, .int a1, .int a2] 3
  rw [hE]
  generalize (lg_sl ([.int a0, .int a1, .int a2]) ++ List.replicate (3 - (lg_sl ([.int a0, .int a1, .int a2])).length) Slot.unset).toArray = ls at hl ⊢
  have hl : lv_has ls 3 [(0, .int a0), (1, .int a1), (2, .int a2)] := hl
  unfold f_X5_isDigit at hres
  refine lv_iload_n hx hb dX5_isDigit_0 rfl (lv_at hl 0 rfl) ?_
  refine lv_bipush (v := 48) hx hb dX5_isDigit_1 (by decide) ?_
  refine lv_iload_n hx hb dX5_isDigit_3 rfl (lv_at hl 1 rfl) ?_
  refine lv_iadd hx hb dX5_isDigit_4 ?_
  refine lv_bipush (v := 48) hx hb dX5_isDigit_5 (by decide) ?_
  refine lv_iload_n hx hb dX5_isDigit_7 rfl (lv_at hl 2 rfl) ?_
  refine lv_iadd hx hb dX5_isDigit_8 ?_
  refine pu_n S (c_X7_within l a0 (48 + a1) (48 + a2) _ rfl) ⟨va_cnB 3 hts gX5_isDigit_X7_within_n92 rfl rfl rfl hN.2.2.2.1 (hts (.initialized RX7) (by decide +kernel)) (by decide +kernel) ⟨Nat.le_of_ble_eq_true rfl, Nat.le_of_ble_eq_true rfl⟩, hts (.static yX7_within) (by decide +kernel), trivial⟩ hN rfl hl.1 rfl (Nat.le_of_ble_eq_true rfl) dX5_isDigit_9 ⟨Nat.zero_le _, Nat.zero_le _⟩ ?_
  obtain rfl := hres
  exact W.zret hx hb hr (bI_nar _) (fun t ht hW => ⟨rfl, ht⟩) (fun _ h => absurd h List.not_mem_nil) dX5_isDigit_12
abbrev rm_X5_headGoesOn : Room := { frames := 2, cells := 0, slots := 0, locals := 44 }
def f_X5_headGoesOn (a0 : Int32) (a1 : Int32) : Bool := (if a0 = 0 then (if a1 = 118 then (true) else (false)) else (if a0 = 3 then (if a1 = 47 then (true) else (false)) else ((f_X5_isDigit a1 (0 : Int32) (7 : Int32)))))
set_option maxHeartbeats 4000000 in
set_option maxRecDepth 100000 in
theorem c_X5_headGoesOn (l : Launch) (a0 : Int32) (a1 : Int32) (res : Bool) (hres : f_X5_headGoesOn a0 a1 = res) : Met l yX5_headGoesOn wsX5_headGoesOn rm_X5_headGoesOn (va_Pc [.int a0, .int a1] NW) (QR (.int (bI res))) 0 0 (fun _ => False) := by
  refine Met.ofW (cc := cX5_headGoesOn) (maxL := 2) (ret := (some .boolean)) (by decide) rfl ?_
  intro p e s m args below meth c s₁ B hml hv
  obtain ⟨hargs, hN⟩ := hv
  have hx := B.exec
  have hb := B.bytes
  have hr := B.returns
  have hts := atoms_spec (ws := wsX5_headGoesOn) B.pre
  have hown : s.vm.findClass RX5 = some m.cls := findClass_of_methodNamed B.named
  have hlocks := B.notSynchronized
  have S : CallFix p m c cX5_headGoesOn 2 s args wsX5_headGoesOn RX5 := ⟨hx, hb, hml, hown, hts⟩
  have hl := lv_entry ([.int a0, .int a1]) (n := 2) (Nat.le_of_ble_eq_true rfl)
  have hE : entryFrame m args 2 = F0 m 0 ((lg_sl ([.int a0, .int a1]) ++ List.replicate (2 - (lg_sl ([.int a0, .int a1])).length) Slot.unset).toArray) [] := by rw [hargs]; exact lg_entry_eq m [.int a0, .int a1] 2
  rw [hE]
  generalize (lg_sl ([.int a0, .int a1]) ++ List.replicate (2 - (lg_sl ([.int a0, .int a1])).length) Slot.unset).toArray = ls at hl ⊢
  have hl : lv_has ls 2 [(0, .int a0), (1, .int a1)] := hl
  unfold f_X5_headGoesOn at hres
  refine lv_iload_n hx hb dX5_headGoesOn_0 rfl (lv_at hl 0 rfl) ?_
  by_cases c1 : a0 = 0
  · replace hres := (if_pos c1).symm.trans hres
    refine lv_lookup (off := 27) (tgt := 28) hx hb dX5_headGoesOn_1 (by decide) (by rw [c1]; decide) (by decide) ?_
    refine lv_iload_n hx hb dX5_headGoesOn_28 rfl (lv_at hl 1 rfl) ?_
    refine lv_bipush (v := 118) hx hb dX5_headGoesOn_29 (by decide) ?_
    refine lv_icmp_ne (tgt := 38) hx hb dX5_headGoesOn_31 (by decide) (fun c2 => ?_) (fun c2 => ?_)
    · replace hres := (if_neg c2).symm.trans hres
      refine lv_iconst (v := 0) hx hb dX5_headGoesOn_38 (by decide) ?_
      obtain rfl := hres
      exact W.zret hx hb hr rfl (fun t ht hW => ⟨rfl, ht⟩) (fun _ h => absurd h List.not_mem_nil) dX5_headGoesOn_39
    · replace hres := (if_pos c2).symm.trans hres
      refine lv_iconst (v := 1) hx hb dX5_headGoesOn_34 (by decide) ?_
      refine lv_goto (tgt := 39) hx hb dX5_headGoesOn_35 (by decide) ?_
      obtain rfl := hres
      exact W.zret hx hb hr rfl (fun t ht hW => ⟨rfl, ht⟩) (fun _ h => absurd h List.not_mem_nil) dX5_headGoesOn_39
  · replace hres := (if_neg c1).symm.trans hres
    by_cases c3 : a0 = 3
    · replace hres := (if_pos c3).symm.trans hres
      refine lv_lookup (off := 39) (tgt := 40) hx hb dX5_headGoesOn_1 (by decide) (by rw [c3]; decide) (by decide) ?_
      refine lv_iload_n hx hb dX5_headGoesOn_40 rfl (lv_at hl 1 rfl) ?_
      refine lv_bipush (v := 47) hx hb dX5_headGoesOn_41 (by decide) ?_
      refine lv_icmp_ne (tgt := 50) hx hb dX5_headGoesOn_43 (by decide) (fun c4 => ?_) (fun c4 => ?_)
      · replace hres := (if_neg c4).symm.trans hres
        refine lv_iconst (v := 0) hx hb dX5_headGoesOn_50 (by decide) ?_
        obtain rfl := hres
        exact W.zret hx hb hr rfl (fun t ht hW => ⟨rfl, ht⟩) (fun _ h => absurd h List.not_mem_nil) dX5_headGoesOn_51
      · replace hres := (if_pos c4).symm.trans hres
        refine lv_iconst (v := 1) hx hb dX5_headGoesOn_46 (by decide) ?_
        refine lv_goto (tgt := 51) hx hb dX5_headGoesOn_47 (by decide) ?_
        obtain rfl := hres
        exact W.zret hx hb hr rfl (fun t ht hW => ⟨rfl, ht⟩) (fun _ h => absurd h List.not_mem_nil) dX5_headGoesOn_51
    · replace hres := (if_neg c3).symm.trans hres
      refine lv_lookup (off := 51) (tgt := 52) hx hb dX5_headGoesOn_1 (by decide) ((lv_osw c1 rfl).trans ((lv_osw c3 rfl).trans rfl)) (by decide) ?_
      refine lv_iload_n hx hb dX5_headGoesOn_52 rfl (lv_at hl 1 rfl) ?_
      refine lv_iconst (v := 0) hx hb dX5_headGoesOn_53 (by decide) ?_
      refine lv_bipush (v := 7) hx hb dX5_headGoesOn_54 (by decide) ?_
      refine pu_s S (c_X5_isDigit l a1 (0 : Int32) (7 : Int32) _ rfl) (va_cwS 3 hts gX5_headGoesOn_X5_isDigit rfl rfl rfl (by decide +kernel) ⟨Nat.le_of_ble_eq_true rfl, Nat.le_of_ble_eq_true rfl⟩) hN rfl hl.1 rfl (Nat.le_of_ble_eq_true rfl) dX5_headGoesOn_56 ⟨Nat.zero_le _, Nat.zero_le _⟩ ?_
      obtain rfl := hres
      exact W.zret hx hb hr (bI_nar _) (fun t ht hW => ⟨rfl, ht⟩) (fun _ h => absurd h List.not_mem_nil) dX5_headGoesOn_59
abbrev rm_X5_articleGoesOn : Room := { frames := 2, cells := 0, slots := 0, locals := 44 }
def f_X5_articleGoesOn (a0 : Int32) (a1 : Int32) : Bool := (if a0 = 0 then (if a1 = 59 then (true) else (false)) else (if a0 = 1 then (if (f_X5_kindOf a1) = (-9) then (false) else (true)) else (if a0 = 2 then ((f_X5_isDigit a1 (1 : Int32) (9 : Int32))) else (if a0 = 3 then ((f_X5_isDigit a1 (0 : Int32) (9 : Int32))) else (if a0 = 4 then ((f_X5_isDigit a1 (0 : Int32) (4 : Int32))) else ((f_X5_isDigit a1 (0 : Int32) (9 : Int32))))))))
set_option maxHeartbeats 4000000 in
set_option maxRecDepth 100000 in
theorem c_X5_articleGoesOn (l : Launch) (a0 : Int32) (a1 : Int32) (res : Bool) (hres : f_X5_articleGoesOn a0 a1 = res) : Met l yX5_articleGoesOn wsX5_articleGoesOn rm_X5_articleGoesOn (va_Pc [.int a0, .int a1] NW) (QR (.int (bI res))) 0 0 (fun _ => False) := by
  refine Met.ofW (cc := cX5_articleGoesOn) (maxL := 2) (ret := (some .boolean)) (by decide) rfl ?_
  intro p e s m args below meth c s₁ B hml hv
  obtain ⟨hargs, hN⟩ := hv
  have hx := B.exec
  have hb := B.bytes
  have hr := B.returns
  have hts := atoms_spec (ws := wsX5_articleGoesOn) B.pre
  have hown : s.vm.findClass RX5 = some m.cls := findClass_of_methodNamed B.named
  have hlocks := B.notSynchronized
  have S : CallFix p m c cX5_articleGoesOn 2 s args wsX5_articleGoesOn RX5 := ⟨hx, hb, hml, hown, hts⟩
  have hl := lv_entry ([.int a0, .int a1]) (n := 2) (Nat.le_of_ble_eq_true rfl)
  have hE : entryFrame m args 2 = F0 m 0 ((lg_sl ([.int a0, .int a1]) ++ List.replicate (2 - (lg_sl ([.int a0, .int a1])).length) Slot.unset).toArray) [] := by rw [hargs]; exact lg_entry_eq m [.int a0, .int a1] 2
  rw [hE]
  generalize (lg_sl ([.int a0, .int a1]) ++ List.replicate (2 - (lg_sl ([.int a0, .int a1])).length) Slot.unset).toArray = ls at hl ⊢
  have hl : lv_has ls 2 [(0, .int a0), (1, .int a1)] := hl
  unfold f_X5_articleGoesOn at hres
  refine lv_iload_n hx hb dX5_articleGoesOn_0 rfl (lv_at hl 0 rfl) ?_
  by_cases c1 : a0 = 0
  · replace hres := (if_pos c1).symm.trans hres
    refine lv_tableIn (off := 35) (tgt := 36) hx hb dX5_articleGoesOn_1 (by rw [c1]; decide) (by rw [c1]; decide) (by rw [c1]; decide) (by decide) ?_
    refine lv_iload_n hx hb dX5_articleGoesOn_36 rfl (lv_at hl 1 rfl) ?_
    refine lv_bipush (v := 59) hx hb dX5_articleGoesOn_37 (by decide) ?_
    refine lv_icmp_ne (tgt := 46) hx hb dX5_articleGoesOn_39 (by decide) (fun c2 => ?_) (fun c2 => ?_)
    · replace hres := (if_neg c2).symm.trans hres
      refine lv_iconst (v := 0) hx hb dX5_articleGoesOn_46 (by decide) ?_
      obtain rfl := hres
      exact W.zret hx hb hr rfl (fun t ht hW => ⟨rfl, ht⟩) (fun _ h => absurd h List.not_mem_nil) dX5_articleGoesOn_47
    · replace hres := (if_pos c2).symm.trans hres
      refine lv_iconst (v := 1) hx hb dX5_articleGoesOn_42 (by decide) ?_
      refine lv_goto (tgt := 47) hx hb dX5_articleGoesOn_43 (by decide) ?_
      obtain rfl := hres
      exact W.zret hx hb hr rfl (fun t ht hW => ⟨rfl, ht⟩) (fun _ h => absurd h List.not_mem_nil) dX5_articleGoesOn_47
  · replace hres := (if_neg c1).symm.trans hres
    by_cases c3 : a0 = 1
    · replace hres := (if_pos c3).symm.trans hres
      refine lv_tableIn (off := 47) (tgt := 48) hx hb dX5_articleGoesOn_1 (by rw [c3]; decide) (by rw [c3]; decide) (by rw [c3]; decide) (by decide) ?_
      refine lv_iload_n hx hb dX5_articleGoesOn_48 rfl (lv_at hl 1 rfl) ?_
      refine pu_s S (c_X5_kindOf l a1 _ rfl) (va_cwS 1 hts gX5_articleGoesOn_X5_kindOf rfl rfl rfl (by decide +kernel) ⟨Nat.le_of_ble_eq_true rfl, Nat.le_of_ble_eq_true rfl⟩) hN rfl hl.1 rfl (Nat.le_of_ble_eq_true rfl) dX5_articleGoesOn_49 ⟨Nat.zero_le _, Nat.zero_le _⟩ ?_
      refine lv_bipush (v := (-9)) hx hb dX5_articleGoesOn_52 (by decide) ?_
      refine lv_icmp_eq (tgt := 61) hx hb dX5_articleGoesOn_54 (by decide) (fun c5 => ?_) (fun c5 => ?_)
      · replace hres := (if_pos c5).symm.trans hres
        refine lv_iconst (v := 0) hx hb dX5_articleGoesOn_61 (by decide) ?_
        obtain rfl := hres
        exact W.zret hx hb hr rfl (fun t ht hW => ⟨rfl, ht⟩) (fun _ h => absurd h List.not_mem_nil) dX5_articleGoesOn_62
      · replace hres := (if_neg c5).symm.trans hres
        refine lv_iconst (v := 1) hx hb dX5_articleGoesOn_57 (by decide) ?_
        refine lv_goto (tgt := 62) hx hb dX5_articleGoesOn_58 (by decide) ?_
        obtain rfl := hres
        exact W.zret hx hb hr rfl (fun t ht hW => ⟨rfl, ht⟩) (fun _ h => absurd h List.not_mem_nil) dX5_articleGoesOn_62
    · replace hres := (if_neg c3).symm.trans hres
      by_cases c6 : a0 = 2
      · replace hres := (if_pos c6).symm.trans hres
        refine lv_tableIn (off := 62) (tgt := 63) hx hb dX5_articleGoesOn_1 (by rw [c6]; decide) (by rw [c6]; decide) (by rw [c6]; decide) (by decide) ?_
        refine lv_iload_n hx hb dX5_articleGoesOn_63 rfl (lv_at hl 1 rfl) ?_
        refine lv_iconst (v := 1) hx hb dX5_articleGoesOn_64 (by decide) ?_
        refine lv_bipush (v := 9) hx hb dX5_articleGoesOn_65 (by decide) ?_
        refine pu_s S (c_X5_isDigit l a1 (1 : Int32) (9 : Int32) _ rfl) (va_cwS 3 hts gX5_articleGoesOn_X5_isDigit rfl rfl rfl (by decide +kernel) ⟨Nat.le_of_ble_eq_true rfl, Nat.le_of_ble_eq_true rfl⟩) hN rfl hl.1 rfl (Nat.le_of_ble_eq_true rfl) dX5_articleGoesOn_67 ⟨Nat.zero_le _, Nat.zero_le _⟩ ?_
        obtain rfl := hres
        exact W.zret hx hb hr (bI_nar _) (fun t ht hW => ⟨rfl, ht⟩) (fun _ h => absurd h List.not_mem_nil) dX5_articleGoesOn_70
      · replace hres := (if_neg c6).symm.trans hres
        by_cases c8 : a0 = 3
        · replace hres := (if_pos c8).symm.trans hres
          refine lv_tableIn (off := 77) (tgt := 78) hx hb dX5_articleGoesOn_1 (by rw [c8]; decide) (by rw [c8]; decide) (by rw [c8]; decide) (by decide) ?_
          refine lv_iload_n hx hb dX5_articleGoesOn_78 rfl (lv_at hl 1 rfl) ?_
          refine lv_iconst (v := 0) hx hb dX5_articleGoesOn_79 (by decide) ?_
          refine lv_bipush (v := 9) hx hb dX5_articleGoesOn_80 (by decide) ?_
          refine pu_s S (c_X5_isDigit l a1 (0 : Int32) (9 : Int32) _ rfl) (va_cwS 3 hts gX5_articleGoesOn_X5_isDigit rfl rfl rfl (by decide +kernel) ⟨Nat.le_of_ble_eq_true rfl, Nat.le_of_ble_eq_true rfl⟩) hN rfl hl.1 rfl (Nat.le_of_ble_eq_true rfl) dX5_articleGoesOn_82 ⟨Nat.zero_le _, Nat.zero_le _⟩ ?_
          obtain rfl := hres
          exact W.zret hx hb hr (bI_nar _) (fun t ht hW => ⟨rfl, ht⟩) (fun _ h => absurd h List.not_mem_nil) dX5_articleGoesOn_85
        · replace hres := (if_neg c8).symm.trans hres
          by_cases c10 : a0 = 4
          · replace hres := (if_pos c10).symm.trans hres
            refine lv_tableIn (off := 70) (tgt := 71) hx hb dX5_articleGoesOn_1 (by rw [c10]; decide) (by rw [c10]; decide) (by rw [c10]; decide) (by decide) ?_
            refine lv_iload_n hx hb dX5_articleGoesOn_71 rfl (lv_at hl 1 rfl) ?_
            refine lv_iconst (v := 0) hx hb dX5_articleGoesOn_72 (by decide) ?_
            refine lv_iconst (v := 4) hx hb dX5_articleGoesOn_73 (by decide) ?_
            refine pu_s S (c_X5_isDigit l a1 (0 : Int32) (4 : Int32) _ rfl) (va_cwS 3 hts gX5_articleGoesOn_X5_isDigit rfl rfl rfl (by decide +kernel) ⟨Nat.le_of_ble_eq_true rfl, Nat.le_of_ble_eq_true rfl⟩) hN rfl hl.1 rfl (Nat.le_of_ble_eq_true rfl) dX5_articleGoesOn_74 ⟨Nat.zero_le _, Nat.zero_le _⟩ ?_
            obtain rfl := hres
            exact W.zret hx hb hr (bI_nar _) (fun t ht hW => ⟨rfl, ht⟩) (fun _ h => absurd h List.not_mem_nil) dX5_articleGoesOn_77
          · replace hres := (if_neg c10).symm.trans hres
            have e1 := lv_neT c1 (show (0 : Int32).toInt = 0 from rfl)
            have e3 := lv_neT c3 (show (1 : Int32).toInt = 1 from rfl)
            have e6 := lv_neT c6 (show (2 : Int32).toInt = 2 from rfl)
            have e8 := lv_neT c8 (show (3 : Int32).toInt = 3 from rfl)
            have e10 := lv_neT c10 (show (4 : Int32).toInt = 4 from rfl)
            refine lv_tableOut (tgt := 78) hx hb dX5_articleGoesOn_1 (by omega) (by decide) ?_
            refine lv_iload_n hx hb dX5_articleGoesOn_78 rfl (lv_at hl 1 rfl) ?_
            refine lv_iconst (v := 0) hx hb dX5_articleGoesOn_79 (by decide) ?_
            refine lv_bipush (v := 9) hx hb dX5_articleGoesOn_80 (by decide) ?_
            refine pu_s S (c_X5_isDigit l a1 (0 : Int32) (9 : Int32) _ rfl) (va_cwS 3 hts gX5_articleGoesOn_X5_isDigit rfl rfl rfl (by decide +kernel) ⟨Nat.le_of_ble_eq_true rfl, Nat.le_of_ble_eq_true rfl⟩) hN rfl hl.1 rfl (Nat.le_of_ble_eq_true rfl) dX5_articleGoesOn_82 ⟨Nat.zero_le _, Nat.zero_le _⟩ ?_
            obtain rfl := hres
            exact W.zret hx hb hr (bI_nar _) (fun t ht hW => ⟨rfl, ht⟩) (fun _ h => absurd h List.not_mem_nil) dX5_articleGoesOn_85
abbrev rm_X5_goesOn : Room := { frames := 3, cells := 0, slots := 0, locals := 65 }
def f_X5_goesOn (a0 : Int32) (a1 : Int32) (a2 : Int32) : Bool := (if 4 ≤ a0 then (if (4 + a1) ≤ a0 then (if a1 = 0 then (false) else (if ((a0 - 4) - a1) < 36 then ((f_X5_articleGoesOn (((a0 - 4) - a1) - ((a0 - 4) - a1) / 6 * 6) a2)) else (false))) else (true)) else ((f_X5_headGoesOn a0 a2)))
set_option maxHeartbeats 4000000 in
set_option maxRecDepth 100000 in
theorem c_X5_goesOn (l : Launch) (a0 : Int32) (a1 : Int32) (a2 : Int32) (res : Bool) (hres : f_X5_goesOn a0 a1 a2 = res) : Met l yX5_goesOn wsX5_goesOn rm_X5_goesOn (va_Pc [.int a0, .int a1, .int a2] NW) (QR (.int (bI res))) 0 0 (fun _ => False) := by
  refine Met.ofW (cc := cX5_goesOn) (maxL := 4) (ret := (some .boolean)) (by decide) rfl ?_
  intro p e s m args below meth c s₁ B hml hv
  obtain ⟨hargs, hN⟩ := hv
  have hx := B.exec
  have hb := B.bytes
  have hr := B.returns
  have hts := atoms_spec (ws := wsX5_goesOn) B.pre
  have hown : s.vm.findClass RX5 = some m.cls := findClass_of_methodNamed B.named
  have hlocks := B.notSynchronized
  have S : CallFix p m c cX5_goesOn 4 s args wsX5_goesOn RX5 := ⟨hx, hb, hml, hown, hts⟩
  have hl := lv_entry ([.int a0, .int a1, .int a2]) (n := 4) (Nat.le_of_ble_eq_true rfl)
  have hE : entryFrame m args 4 = F0 m 0 ((lg_sl ([.int a0, .int a1, .int a2]) ++ List.replicate (4 - (lg_sl ([.int a0, .int a1, .int a2])).length) Slot.unset).toArray) [] := by rw [hargs]; exact lg_entry_eq m [.int a0, .int a1, .int a2] 4
  rw [hE]
  generalize (lg_sl ([.int a0, .int a1, .int a2]) ++ List.replicate (4 - (lg_sl ([.int a0, .int a1, .int a2])).length) Slot.unset).toArray = ls at hl ⊢
  have hl : lv_has ls 4 [(0, .int a0), (1, .int a1), (2, .int a2)] := hl
  unfold f_X5_goesOn at hres
  refine lv_iload_n hx hb dX5_goesOn_0 rfl (lv_at hl 0 rfl) ?_
  refine lv_iconst (v := 4) hx hb dX5_goesOn_1 (by decide) ?_
  refine lv_icmp_ge (tgt := 11) hx hb dX5_goesOn_2 (by decide) (fun c1 => ?_) (fun c1 => ?_)
  · replace hres := (if_pos c1).symm.trans hres
    refine lv_iload_n hx hb dX5_goesOn_11 rfl (lv_at hl 0 rfl) ?_
    refine lv_iconst (v := 4) hx hb dX5_goesOn_12 (by decide) ?_
    refine lv_iload_n hx hb dX5_goesOn_13 rfl (lv_at hl 1 rfl) ?_
    refine lv_iadd hx hb dX5_goesOn_14 ?_
    refine lv_icmp_ge (tgt := 20) hx hb dX5_goesOn_15 (by decide) (fun c2 => ?_) (fun c2 => ?_)
    · replace hres := (if_pos c2).symm.trans hres
      refine lv_iload_n hx hb dX5_goesOn_20 rfl (lv_at hl 0 rfl) ?_
      refine lv_iconst (v := 4) hx hb dX5_goesOn_21 (by decide) ?_
      refine lv_isub hx hb dX5_goesOn_22 ?_
      refine lv_iload_n hx hb dX5_goesOn_23 rfl (lv_at hl 1 rfl) ?_
      refine lv_isub hx hb dX5_goesOn_24 ?_
      refine lv_istore_n (lv' := [(3, .int ((a0 - 4) - a1)), (0, .int a0), (1, .int a1), (2, .int a2)]) hx hb dX5_goesOn_25 rfl hl (by decide) rfl (fun ls hl => ?_)
      refine lv_iload_n hx hb dX5_goesOn_26 rfl (lv_at hl 2 rfl) ?_
      refine lv_if_eq (tgt := 36) hx hb dX5_goesOn_27 (by decide) (fun c3 => ?_) (fun c3 => ?_)
      · replace hres := (if_pos c3).symm.trans hres
        refine lv_iconst (v := 0) hx hb dX5_goesOn_36 (by decide) ?_
        obtain rfl := hres
        exact W.zret hx hb hr rfl (fun t ht hW => ⟨rfl, ht⟩) (fun _ h => absurd h List.not_mem_nil) dX5_goesOn_37
      · replace hres := (if_neg c3).symm.trans hres
        refine lv_iload_n hx hb dX5_goesOn_30 rfl (lv_at hl 0 rfl) ?_
        refine lv_bipush (v := 36) hx hb dX5_goesOn_31 (by decide) ?_
        refine lv_icmp_lt (tgt := 38) hx hb dX5_goesOn_33 (by decide) (fun c4 => ?_) (fun c4 => ?_)
        · replace hres := (if_pos c4).symm.trans hres
          refine lv_iload_n hx hb dX5_goesOn_38 rfl (lv_at hl 0 rfl) ?_
          refine lv_bipush (v := 6) hx hb dX5_goesOn_39 (by decide) ?_
          refine lv_irem hx hb dX5_goesOn_41 (by decide) ?_
          refine lv_iload_n hx hb dX5_goesOn_42 rfl (lv_at hl 3 rfl) ?_
          refine pu_s S (c_X5_articleGoesOn l (((a0 - 4) - a1) - ((a0 - 4) - a1) / 6 * 6) a2 _ rfl) (va_cwS 2 hts gX5_goesOn_X5_articleGoesOn rfl rfl rfl (by decide +kernel) ⟨Nat.le_of_ble_eq_true rfl, Nat.le_of_ble_eq_true rfl⟩) hN rfl hl.1 rfl (Nat.le_of_ble_eq_true rfl) dX5_goesOn_43 ⟨Nat.zero_le _, Nat.zero_le _⟩ ?_
          obtain rfl := hres
          exact W.zret hx hb hr (bI_nar _) (fun t ht hW => ⟨rfl, ht⟩) (fun _ h => absurd h List.not_mem_nil) dX5_goesOn_46
        · replace hres := (if_neg c4).symm.trans hres
          refine lv_iconst (v := 0) hx hb dX5_goesOn_36 (by decide) ?_
          obtain rfl := hres
          exact W.zret hx hb hr rfl (fun t ht hW => ⟨rfl, ht⟩) (fun _ h => absurd h List.not_mem_nil) dX5_goesOn_37
    · replace hres := (if_neg c2).symm.trans hres
      refine lv_iconst (v := 1) hx hb dX5_goesOn_18 (by decide) ?_
      obtain rfl := hres
      exact W.zret hx hb hr rfl (fun t ht hW => ⟨rfl, ht⟩) (fun _ h => absurd h List.not_mem_nil) dX5_goesOn_19
  · replace hres := (if_neg c1).symm.trans hres
    refine lv_iload_n hx hb dX5_goesOn_5 rfl (lv_at hl 0 rfl) ?_
    refine lv_iload_n hx hb dX5_goesOn_6 rfl (lv_at hl 2 rfl) ?_
    refine pu_s S (c_X5_headGoesOn l a0 a2 _ rfl) (va_cwS 2 hts gX5_goesOn_X5_headGoesOn rfl rfl rfl (by decide +kernel) ⟨Nat.le_of_ble_eq_true rfl, Nat.le_of_ble_eq_true rfl⟩) hN rfl hl.1 rfl (Nat.le_of_ble_eq_true rfl) dX5_goesOn_7 ⟨Nat.zero_le _, Nat.zero_le _⟩ ?_
    obtain rfl := hres
    exact W.zret hx hb hr (bI_nar _) (fun t ht hW => ⟨rfl, ht⟩) (fun _ h => absurd h List.not_mem_nil) dX5_goesOn_10
abbrev rm_X5_digit : Room := { frames := 1, cells := 0, slots := 0, locals := 21 }
def f_X5_digit (v : Nat → Int32) (r : Nat → Nat → Int32) (k0 : Nat) (a1 : Int32) : Option Int32 := (f_X4_at v r k0 a1).bind (fun y1 => some ((y1 - 48)))
set_option maxHeartbeats 4000000 in
set_option maxRecDepth 100000 in
theorem c_X5_digit (l : Launch) (D : va_G) (cy : Nat → ClassId) (A : Nat → Nat) (X : va_W) (A0 : Nat → Prop) (v : Nat → Int32) (r : Nat → Nat → Int32) (k0 : Nat) (hk0 : k0 < 4) (a1 : Int32) (res : Int32) (hres : f_X5_digit v r k0 a1 = some res) : Met l yX5_digit wsX5_digit rm_X5_digit (va_Pc [.ref (A (19 + k0)), .int a1] (GW D (tyC cy) (pcC cy A v r ++ X) A0)) (QR (.int res)) 0 0 (fun _ => False) := by
  refine Met.ofW (cc := cX5_digit) (maxL := 2) (ret := (some .int)) (by decide) rfl ?_
  intro p e s m args below meth c s₁ B hml hv
  obtain ⟨hargs, hP, hK, hD0, hN⟩ := hv
  have hx := B.exec
  have hb := B.bytes
  have hr := B.returns
  have hts := atoms_spec (ws := wsX5_digit) B.pre
  have hown : s.vm.findClass RX5 = some m.cls := findClass_of_methodNamed B.named
  have hlocks := B.notSynchronized
  have hI : IW D (pcC cy A v r ++ X) A0 s.heap s.heap [] := ⟨hP, hD0, va_S.rf⟩
  have S : CallFix p m c cX5_digit 2 s args wsX5_digit RX5 := ⟨hx, hb, hml, hown, hts⟩
  have hl := lv_entry ([.ref (A (19 + k0)), .int a1]) (n := 2) (Nat.le_of_ble_eq_true rfl)
  have hE : entryFrame m args 2 = F0 m 0 ((lg_sl ([.ref (A (19 + k0)), .int a1]) ++ List.replicate (2 - (lg_sl ([.ref (A (19 + k0)), .int a1])).length) Slot.unset).toArray) [] := by rw [hargs]; exact lg_entry_eq m [.ref (A (19 + k0)), .int a1] 2
  rw [hE]
  generalize (lg_sl ([.ref (A (19 + k0)), .int a1]) ++ List.replicate (2 - (lg_sl ([.ref (A (19 + k0)), .int a1])).length) Slot.unset).toArray = ls at hl ⊢
  have hl : lv_has ls 2 [(0, .ref (A (19 + k0))), (1, .int a1)] := hl
  unfold f_X5_digit at hres
  refine lv_aload_n hx hb dX5_digit_0 rfl (lv_at hl 0 rfl) ?_
  refine lv_iload_n hx hb dX5_digit_1 rfl (lv_at hl 1 rfl) ?_
  obtain ⟨y1, e1, hres⟩ := bd hres
  refine ro_v S (c_X4_at l D cy A X A0 v r k0 hk0 a1 y1 e1) (cwV 1 hts gX5_digit_X4_at rfl rfl rfl (by decide +kernel) ⟨Nat.le_of_ble_eq_true rfl, Nat.le_of_ble_eq_true rfl⟩) hI hK hN (ci := 4) rfl (atC_sh hk0) rfl rfl hl.1 rfl (Nat.le_of_ble_eq_true rfl) dX5_digit_2 ⟨Nat.zero_le _, Nat.zero_le _⟩ ?_
  refine lv_bipush (v := 48) hx hb dX5_digit_5 (by decide) ?_
  refine lv_isub hx hb dX5_digit_7 ?_
  obtain rfl := Option.some.inj hres
  exact W.iret hx hb hr (fun t ht hW => ⟨rfl, ht⟩) (fun _ h => absurd h List.not_mem_nil) dX5_digit_8
abbrev rm_X5_roomsIn : Room := { frames := 2, cells := 0, slots := 0, locals := 44 }
def f_X5_roomsIn_11 (v : Nat → Int32) (r : Nat → Nat → Int32) (k0 : Nat) (a1 : Int32) (a2 : Int32) : Nat → Int32 → Int32 → Option Int32
  | 0, _, _ => none
  | n11 + 1, x3, x4 => (if x3 ≤ x4 then some ((if 0 < x3 then x3 else 0)) else (f_X4_at v r k0 ((a1 + 4) + x4)).bind (fun y2 => (if (f_X5_isDigit y2 (1 : Int32) (9 : Int32)) = true then f_X5_roomsIn_11 v r k0 a1 a2 n11 x3 (x4 + 1) else some (x4))))
theorem f_X5_roomsIn_11_s (v : Nat → Int32) (r : Nat → Nat → Int32) (k0 : Nat) (a1 : Int32) (a2 : Int32) (n11 : Nat) (x3 : Int32) (x4 : Int32) : f_X5_roomsIn_11 v r k0 a1 a2 (n11 + 1) x3 x4 = (if x3 ≤ x4 then some ((if 0 < x3 then x3 else 0)) else (f_X4_at v r k0 ((a1 + 4) + x4)).bind (fun y2 => (if (f_X5_isDigit y2 (1 : Int32) (9 : Int32)) = true then f_X5_roomsIn_11 v r k0 a1 a2 n11 x3 (x4 + 1) else some (x4)))) := rfl
def f_X5_roomsIn (v : Nat → Int32) (r : Nat → Nat → Int32) (k0 : Nat) (a1 : Int32) (a2 : Int32) : Option Int32 := f_X5_roomsIn_11 v r k0 a1 a2 80 (if (a2 - 4) < 4 then (a2 - 4) else 4) (0 : Int32)
set_option maxHeartbeats 4000000 in
set_option maxRecDepth 100000 in
theorem c_X5_roomsIn (l : Launch) (D : va_G) (cy : Nat → ClassId) (A : Nat → Nat) (X : va_W) (A0 : Nat → Prop) (v : Nat → Int32) (r : Nat → Nat → Int32) (k0 : Nat) (hk0 : k0 < 4) (a1 : Int32) (a2 : Int32) (res : Int32) (hres : f_X5_roomsIn v r k0 a1 a2 = some res) : Met l yX5_roomsIn wsX5_roomsIn rm_X5_roomsIn (va_Pc [.ref (A (19 + k0)), .int a1, .int a2] (GW D (tyC cy) (pcC cy A v r ++ X) A0)) (QR (.int res)) 0 0 (fun _ => False) := by
  refine Met.ofW (cc := cX5_roomsIn) (maxL := 5) (ret := (some .int)) (by decide) rfl ?_
  intro p e s m args below meth c s₁ B hml hv
  obtain ⟨hargs, hP, hK, hD0, hN⟩ := hv
  have hx := B.exec
  have hb := B.bytes
  have hr := B.returns
  have hts := atoms_spec (ws := wsX5_roomsIn) B.pre
  have hown : s.vm.findClass RX5 = some m.cls := findClass_of_methodNamed B.named
  have hlocks := B.notSynchronized
  have hI : IW D (pcC cy A v r ++ X) A0 s.heap s.heap [] := ⟨hP, hD0, va_S.rf⟩
  have S : CallFix p m c cX5_roomsIn 5 s args wsX5_roomsIn RX5 := ⟨hx, hb, hml, hown, hts⟩
  have hl := lv_entry ([.ref (A (19 + k0)), .int a1, .int a2]) (n := 5) (Nat.le_of_ble_eq_true rfl)
  have hE : entryFrame m args 5 = F0 m 0 ((lg_sl ([.ref (A (19 + k0)), .int a1, .int a2]) ++ List.replicate (5 - (lg_sl ([.ref (A (19 + k0)), .int a1, .int a2])).length) Slot.unset).toArray) [] := by rw [hargs]; exact lg_entry_eq m [.ref (A (19 + k0)), .int a1, .int a2] 5
  rw [hE]
  generalize (lg_sl ([.ref (A (19 + k0)), .int a1, .int a2]) ++ List.replicate (5 - (lg_sl ([.ref (A (19 + k0)), .int a1, .int a2])).length) Slot.unset).toArray = ls at hl ⊢
  have hl : lv_has ls 5 [(0, .ref (A (19 + k0))), (1, .int a1), (2, .int a2)] := hl
  unfold f_X5_roomsIn at hres
  refine lv_iconst (v := 4) hx hb dX5_roomsIn_0 (by decide) ?_
  refine lv_iload_n hx hb dX5_roomsIn_1 rfl (lv_at hl 2 rfl) ?_
  refine lv_iconst (v := 4) hx hb dX5_roomsIn_2 (by decide) ?_
  refine lv_isub hx hb dX5_roomsIn_3 ?_
  refine va_mmin hx hb (hml.trans hl.1.symm) hown (hts (.methodLink RX5 42 Lib.Math.min.name) (by decide +kernel)) (hts (.static Lib.Math.min.name) (by decide +kernel)) (hts (.initialized "java/lang/Math") (by decide +kernel)) (hts (.code Lib.Math.min.name Lib.Math.min.code 2 (some .int)) (List.mem_of_getElem? (i := 4) rfl)) (Nat.le_of_ble_eq_true rfl) (Nat.le_of_ble_eq_true rfl) (Nat.zero_le _) (Nat.zero_le _) dX5_roomsIn_4 ?_
  refine lv_istore_n (lv' := [(3, .int (if (a2 - 4) < 4 then (a2 - 4) else 4)), (0, .ref (A (19 + k0))), (1, .int a1), (2, .int a2)]) hx hb dX5_roomsIn_7 rfl hl (by decide) rfl (fun ls hl => ?_)
  refine lv_iconst (v := 0) hx hb dX5_roomsIn_8 (by decide) ?_
  refine lv_istore (lv' := [(4, .int 0), (3, .int (if (a2 - 4) < 4 then (a2 - 4) else 4)), (0, .ref (A (19 + k0))), (1, .int a1), (2, .int a2)]) hx hb dX5_roomsIn_9 hl (by decide) rfl (fun ls hl => ?_)
  have w11 : ∀ (n11 : Nat) (x3 : Int32) (x4 : Int32), f_X5_roomsIn_11 v r k0 a1 a2 n11 x3 x4 = some res → ∀ ls : Array Slot, lv_has ls 5 [(3, .int x3), (4, .int x4), (0, .ref (A (19 + k0))), (1, .int a1)] → W p l e (headSpec wsX5_roomsIn rm_X5_roomsIn).room s m args below meth c s.heap [] 0 0 (MQ below (QR (.int res)) args s 0 0 (fun _ => False)) (F0 m 11 ls []) := by
    intro n11
    induction n11 with
    | zero =>
      intro x3 x4  hres
      have hres : (none : Option Int32) = some res := hres
      cases hres
    | succ n11 ih11 =>
      intro x3 x4  hres ls hl
      replace hres := (f_X5_roomsIn_11_s v r k0 a1 a2 n11 x3 x4).symm.trans hres
      refine lv_iload hx hb dX5_roomsIn_11 (lv_at hl 1 rfl) ?_
      refine lv_iload_n hx hb dX5_roomsIn_13 rfl (lv_at hl 0 rfl) ?_
      refine lv_icmp_ge (tgt := 45) hx hb dX5_roomsIn_14 (by decide) (fun c1 => ?_) (fun c1 => ?_)
      · replace hres := (if_pos c1).symm.trans hres
        refine lv_iconst (v := 0) hx hb dX5_roomsIn_45 (by decide) ?_
        refine lv_iload_n hx hb dX5_roomsIn_46 rfl (lv_at hl 0 rfl) ?_
        refine va_mmax hx hb (hml.trans hl.1.symm) hown (hts (.methodLink RX5 82 Lib.Math.max.name) (by decide +kernel)) (hts (.static Lib.Math.max.name) (by decide +kernel)) (hts (.initialized "java/lang/Math") (by decide +kernel)) (hts (.code Lib.Math.max.name Lib.Math.max.code 2 (some .int)) (List.mem_of_getElem? (i := 7) rfl)) (Nat.le_of_ble_eq_true rfl) (Nat.le_of_ble_eq_true rfl) (Nat.zero_le _) (Nat.zero_le _) dX5_roomsIn_47 ?_
        obtain rfl := Option.some.inj hres
        exact W.iret hx hb hr (fun t ht hW => ⟨rfl, ht⟩) (fun _ h => absurd h List.not_mem_nil) dX5_roomsIn_50
      · replace hres := (if_neg c1).symm.trans hres
        refine lv_aload_n hx hb dX5_roomsIn_17 rfl (lv_at hl 2 rfl) ?_
        refine lv_iload_n hx hb dX5_roomsIn_18 rfl (lv_at hl 3 rfl) ?_
        refine lv_iconst (v := 4) hx hb dX5_roomsIn_19 (by decide) ?_
        refine lv_iadd hx hb dX5_roomsIn_20 ?_
        refine lv_iload hx hb dX5_roomsIn_21 (lv_at hl 1 rfl) ?_
        refine lv_iadd hx hb dX5_roomsIn_23 ?_
        obtain ⟨y2, e2, hres⟩ := bd hres
        refine ro_v S (c_X4_at l D cy A X A0 v r k0 hk0 ((a1 + 4) + x4) y2 e2) (cwV 1 hts gX5_roomsIn_X4_at rfl rfl rfl (by decide +kernel) ⟨Nat.le_of_ble_eq_true rfl, Nat.le_of_ble_eq_true rfl⟩) hI hK hN (ci := 4) rfl (atC_sh hk0) rfl rfl hl.1 rfl (Nat.le_of_ble_eq_true rfl) dX5_roomsIn_24 ⟨Nat.zero_le _, Nat.zero_le _⟩ ?_
        refine lv_iconst (v := 1) hx hb dX5_roomsIn_27 (by decide) ?_
        refine lv_bipush (v := 9) hx hb dX5_roomsIn_28 (by decide) ?_
        refine pu_s S (c_X5_isDigit l y2 (1 : Int32) (9 : Int32) _ rfl) (va_cwS 3 hts gX5_roomsIn_X5_isDigit rfl rfl rfl (by decide +kernel) ⟨Nat.le_of_ble_eq_true rfl, Nat.le_of_ble_eq_true rfl⟩) hN rfl hl.1 rfl (Nat.le_of_ble_eq_true rfl) dX5_roomsIn_30 ⟨Nat.zero_le _, Nat.zero_le _⟩ ?_
        refine lv_if_ne (tgt := 39) hx hb dX5_roomsIn_33 (by decide) (fun c4 => ?_) (fun c4 => ?_)
        · replace hres := (if_pos (bI_t c4)).symm.trans hres
          refine lv_iinc (v := (x4 + 1)) (lv' := [(4, .int (x4 + 1)), (3, .int x3), (0, .ref (A (19 + k0))), (1, .int a1)]) hx hb dX5_roomsIn_39 hl (k := 1) rfl rfl (by decide) rfl (fun ls hl => ?_)
          refine lv_goto (tgt := 11) hx hb dX5_roomsIn_42 (by decide) ?_
          exact ih11 x3 (x4 + 1) hres ls (lv_sub hl [1, 0, 2, 3] rfl)
        · replace hres := (if_neg (bI_f c4)).symm.trans hres
          refine lv_iload hx hb dX5_roomsIn_36 (lv_at hl 1 rfl) ?_
          obtain rfl := Option.some.inj hres
          exact W.iret hx hb hr (fun t ht hW => ⟨rfl, ht⟩) (fun _ h => absurd h List.not_mem_nil) dX5_roomsIn_38
  exact w11 80 (if (a2 - 4) < 4 then (a2 - 4) else 4) (0 : Int32) hres ls (lv_sub hl [1, 0, 2, 3] rfl)
abbrev rm_X5_firstFault : Room := { frames := 4, cells := 0, slots := 0, locals := 88 }
def f_X5_firstFault_10 (v : Nat → Int32) (r : Nat → Nat → Int32) (k0 : Nat) (a1 : Int32) (a2 : Int32) : Nat → Int32 → Int32 → Option Int32
  | 0, _, _ => none
  | n10 + 1, x3, x4 => (if a2 ≤ x4 then (if ((a2 - 4) - x3) ≤ 0 then some (a2) else (if (((a2 - 4) - x3) - ((a2 - 4) - x3) / 6 * 6) = 0 then some ((-9)) else some (a2))) else (f_X4_at v r k0 (a1 + x4)).bind (fun y8 => (if (f_X5_goesOn x4 x3 y8) = true then f_X5_firstFault_10 v r k0 a1 a2 n10 x3 (x4 + 1) else some (x4))))
theorem f_X5_firstFault_10_s (v : Nat → Int32) (r : Nat → Nat → Int32) (k0 : Nat) (a1 : Int32) (a2 : Int32) (n10 : Nat) (x3 : Int32) (x4 : Int32) : f_X5_firstFault_10 v r k0 a1 a2 (n10 + 1) x3 x4 = (if a2 ≤ x4 then (if ((a2 - 4) - x3) ≤ 0 then some (a2) else (if (((a2 - 4) - x3) - ((a2 - 4) - x3) / 6 * 6) = 0 then some ((-9)) else some (a2))) else (f_X4_at v r k0 (a1 + x4)).bind (fun y8 => (if (f_X5_goesOn x4 x3 y8) = true then f_X5_firstFault_10 v r k0 a1 a2 n10 x3 (x4 + 1) else some (x4)))) := rfl
def f_X5_firstFault (v : Nat → Int32) (r : Nat → Nat → Int32) (k0 : Nat) (a1 : Int32) (a2 : Int32) : Option Int32 := (f_X5_roomsIn v r k0 a1 a2).bind (fun y1 => f_X5_firstFault_10 v r k0 a1 a2 80 y1 (0 : Int32))
set_option maxHeartbeats 4000000 in
set_option maxRecDepth 100000 in
theorem c_X5_firstFault (l : Launch) (D : va_G) (cy : Nat → ClassId) (A : Nat → Nat) (X : va_W) (A0 : Nat → Prop) (v : Nat → Int32) (r : Nat → Nat → Int32) (k0 : Nat) (hk0 : k0 < 4) (a1 : Int32) (a2 : Int32) (res : Int32) (hres : f_X5_firstFault v r k0 a1 a2 = some res) : Met l yX5_firstFault wsX5_firstFault rm_X5_firstFault (va_Pc [.ref (A (19 + k0)), .int a1, .int a2] (GW D (tyC cy) (pcC cy A v r ++ X) A0)) (QR (.int res)) 0 0 (fun _ => False) := by
  refine Met.ofW (cc := cX5_firstFault) (maxL := 6) (ret := (some .int)) (by decide) rfl ?_
  intro p e s m args below meth c s₁ B hml hv
  obtain ⟨hargs, hP, hK, hD0, hN⟩ := hv
  have hx := B.exec
  have hb := B.bytes
  have hr := B.returns
  have hts := atoms_spec (ws := wsX5_firstFault) B.pre
  have hown : s.vm.findClass RX5 = some m.cls := findClass_of_methodNamed B.named
  have hlocks := B.notSynchronized
  have hI : IW D (pcC cy A v r ++ X) A0 s.heap s.heap [] := ⟨hP, hD0, va_S.rf⟩
  have S : CallFix p m c cX5_firstFault 6 s args wsX5_firstFault RX5 := ⟨hx, hb, hml, hown, hts⟩
  have hl := lv_entry ([.ref (A (19 + k0)), .int a1, .int a2]) (n := 6) (Nat.le_of_ble_eq_true rfl)
  have hE : entryFrame m args 6 = F0 m 0 ((lg_sl ([.ref (A (19 + k0)), .int a1, .int a2]) ++ List.replicate (6 - (lg_sl ([.ref (A (19 + k0)), .int a1, .int a2])).length) Slot.unset).toArray) [] := by rw [hargs]; exact lg_entry_eq m [.ref (A (19 + k0)), .int a1, .int a2] 6
  rw [hE]
  generalize (lg_sl ([.ref (A (19 + k0)), .int a1, .int a2]) ++ List.replicate (6 - (lg_sl ([.ref (A (19 + k0)), .int a1, .int a2])).length) Slot.unset).toArray = ls at hl ⊢
  have hl : lv_has ls 6 [(0, .ref (A (19 + k0))), (1, .int a1), (2, .int a2)] := hl
  unfold f_X5_firstFault at hres
  refine lv_aload_n hx hb dX5_firstFault_0 rfl (lv_at hl 0 rfl) ?_
  refine lv_iload_n hx hb dX5_firstFault_1 rfl (lv_at hl 1 rfl) ?_
  refine lv_iload_n hx hb dX5_firstFault_2 rfl (lv_at hl 2 rfl) ?_
  obtain ⟨y1, e1, hres⟩ := bd hres
  refine ro_s S (c_X5_roomsIn l D cy A X A0 v r k0 hk0 a1 a2 y1 e1) (va_cwS 3 hts gX5_firstFault_X5_roomsIn rfl rfl rfl (by decide +kernel) ⟨Nat.le_of_ble_eq_true rfl, Nat.le_of_ble_eq_true rfl⟩) hI hK hN rfl hl.1 rfl (Nat.le_of_ble_eq_true rfl) dX5_firstFault_3 ⟨Nat.zero_le _, Nat.zero_le _⟩ ?_
  refine lv_istore_n (lv' := [(3, .int y1), (0, .ref (A (19 + k0))), (1, .int a1), (2, .int a2)]) hx hb dX5_firstFault_6 rfl hl (by decide) rfl (fun ls hl => ?_)
  refine lv_iconst (v := 0) hx hb dX5_firstFault_7 (by decide) ?_
  refine lv_istore (lv' := [(4, .int 0), (3, .int y1), (0, .ref (A (19 + k0))), (1, .int a1), (2, .int a2)]) hx hb dX5_firstFault_8 hl (by decide) rfl (fun ls hl => ?_)
  have w10 : ∀ (n10 : Nat) (x3 : Int32) (x4 : Int32), f_X5_firstFault_10 v r k0 a1 a2 n10 x3 x4 = some res → ∀ ls : Array Slot, lv_has ls 6 [(3, .int x3), (4, .int x4), (0, .ref (A (19 + k0))), (1, .int a1), (2, .int a2)] → W p l e (headSpec wsX5_firstFault rm_X5_firstFault).room s m args below meth c s.heap [] 0 0 (MQ below (QR (.int res)) args s 0 0 (fun _ => False)) (F0 m 10 ls []) := by
    intro n10
    induction n10 with
    | zero =>
      intro x3 x4  hres
      have hres : (none : Option Int32) = some res := hres
      cases hres
    | succ n10 ih10 =>
      intro x3 x4  hres ls hl
      replace hres := (f_X5_firstFault_10_s v r k0 a1 a2 n10 x3 x4).symm.trans hres
      refine lv_iload hx hb dX5_firstFault_10 (lv_at hl 1 rfl) ?_
      refine lv_iload_n hx hb dX5_firstFault_12 rfl (lv_at hl 4 rfl) ?_
      refine lv_icmp_ge (tgt := 42) hx hb dX5_firstFault_13 (by decide) (fun c2 => ?_) (fun c2 => ?_)
      · replace hres := (if_pos c2).symm.trans hres
        refine lv_iload_n hx hb dX5_firstFault_42 rfl (lv_at hl 4 rfl) ?_
        refine lv_iconst (v := 4) hx hb dX5_firstFault_43 (by decide) ?_
        refine lv_isub hx hb dX5_firstFault_44 ?_
        refine lv_iload_n hx hb dX5_firstFault_45 rfl (lv_at hl 0 rfl) ?_
        refine lv_isub hx hb dX5_firstFault_46 ?_
        refine lv_istore (lv' := [(4, .int ((a2 - 4) - x3)), (3, .int x3), (0, .ref (A (19 + k0))), (1, .int a1), (2, .int a2)]) hx hb dX5_firstFault_47 hl (by decide) rfl (fun ls hl => ?_)
        refine lv_iload hx hb dX5_firstFault_49 (lv_at hl 0 rfl) ?_
        refine lv_if_le (tgt := 66) hx hb dX5_firstFault_51 (by decide) (fun c3 => ?_) (fun c3 => ?_)
        · replace hres := (if_pos c3).symm.trans hres
          refine lv_iconst (v := 0) hx hb dX5_firstFault_66 (by decide) ?_
          refine lv_istore (lv' := [(5, .int 0), (4, .int ((a2 - 4) - x3)), (3, .int x3), (0, .ref (A (19 + k0))), (1, .int a1), (2, .int a2)]) hx hb dX5_firstFault_67 hl (by decide) rfl (fun ls hl => ?_)
          refine lv_iload hx hb dX5_firstFault_69 (lv_at hl 0 rfl) ?_
          refine lv_if_eq (tgt := 79) hx hb dX5_firstFault_71 (by decide) (fun c4 => ?_) (fun c4 => absurd (by decide) c4)
          refine lv_iload_n hx hb dX5_firstFault_79 rfl (lv_at hl 5 rfl) ?_
          obtain rfl := Option.some.inj hres
          exact W.iret hx hb hr (fun t ht hW => ⟨rfl, ht⟩) (fun _ h => absurd h List.not_mem_nil) dX5_firstFault_80
        · replace hres := (if_neg c3).symm.trans hres
          refine lv_iload hx hb dX5_firstFault_54 (lv_at hl 0 rfl) ?_
          refine lv_bipush (v := 6) hx hb dX5_firstFault_56 (by decide) ?_
          refine lv_irem hx hb dX5_firstFault_58 (by decide) ?_
          refine lv_if_ne (tgt := 66) hx hb dX5_firstFault_59 (by decide) (fun c5 => ?_) (fun c5 => ?_)
          · replace hres := (if_neg c5).symm.trans hres
            refine lv_iconst (v := 0) hx hb dX5_firstFault_66 (by decide) ?_
            refine lv_istore (lv' := [(5, .int 0), (4, .int ((a2 - 4) - x3)), (3, .int x3), (0, .ref (A (19 + k0))), (1, .int a1), (2, .int a2)]) hx hb dX5_firstFault_67 hl (by decide) rfl (fun ls hl => ?_)
            refine lv_iload hx hb dX5_firstFault_69 (lv_at hl 0 rfl) ?_
            refine lv_if_eq (tgt := 79) hx hb dX5_firstFault_71 (by decide) (fun c6 => ?_) (fun c6 => absurd (by decide) c6)
            refine lv_iload_n hx hb dX5_firstFault_79 rfl (lv_at hl 5 rfl) ?_
            obtain rfl := Option.some.inj hres
            exact W.iret hx hb hr (fun t ht hW => ⟨rfl, ht⟩) (fun _ h => absurd h List.not_mem_nil) dX5_firstFault_80
          · replace hres := (if_pos c5).symm.trans hres
            refine lv_iconst (v := 1) hx hb dX5_firstFault_62 (by decide) ?_
            refine lv_goto (tgt := 67) hx hb dX5_firstFault_63 (by decide) ?_
            refine lv_istore (lv' := [(5, .int 1), (4, .int ((a2 - 4) - x3)), (3, .int x3), (0, .ref (A (19 + k0))), (1, .int a1), (2, .int a2)]) hx hb dX5_firstFault_67 hl (by decide) rfl (fun ls hl => ?_)
            refine lv_iload hx hb dX5_firstFault_69 (lv_at hl 0 rfl) ?_
            refine lv_if_eq (tgt := 79) hx hb dX5_firstFault_71 (by decide) (fun c7 => absurd c7 (by decide)) (fun c7 => ?_)
            refine lv_bipush (v := (-9)) hx hb dX5_firstFault_74 (by decide) ?_
            refine lv_goto (tgt := 80) hx hb dX5_firstFault_76 (by decide) ?_
            obtain rfl := Option.some.inj hres
            exact W.iret hx hb hr (fun t ht hW => ⟨rfl, ht⟩) (fun _ h => absurd h List.not_mem_nil) dX5_firstFault_80
      · replace hres := (if_neg c2).symm.trans hres
        refine lv_iload hx hb dX5_firstFault_16 (lv_at hl 1 rfl) ?_
        refine lv_iload_n hx hb dX5_firstFault_18 rfl (lv_at hl 0 rfl) ?_
        refine lv_aload_n hx hb dX5_firstFault_19 rfl (lv_at hl 2 rfl) ?_
        refine lv_iload_n hx hb dX5_firstFault_20 rfl (lv_at hl 3 rfl) ?_
        refine lv_iload hx hb dX5_firstFault_21 (lv_at hl 1 rfl) ?_
        refine lv_iadd hx hb dX5_firstFault_23 ?_
        obtain ⟨y8, e8, hres⟩ := bd hres
        refine ro_v S (c_X4_at l D cy A X A0 v r k0 hk0 (a1 + x4) y8 e8) (cwV 1 hts gX5_firstFault_X4_at rfl rfl rfl (by decide +kernel) ⟨Nat.le_of_ble_eq_true rfl, Nat.le_of_ble_eq_true rfl⟩) hI hK hN (ci := 4) rfl (atC_sh hk0) rfl rfl hl.1 rfl (Nat.le_of_ble_eq_true rfl) dX5_firstFault_24 ⟨Nat.zero_le _, Nat.zero_le _⟩ ?_
        refine pu_s S (c_X5_goesOn l x4 x3 y8 _ rfl) (va_cwS 3 hts gX5_firstFault_X5_goesOn rfl rfl rfl (by decide +kernel) ⟨Nat.le_of_ble_eq_true rfl, Nat.le_of_ble_eq_true rfl⟩) hN rfl hl.1 rfl (Nat.le_of_ble_eq_true rfl) dX5_firstFault_27 ⟨Nat.zero_le _, Nat.zero_le _⟩ ?_
        refine lv_if_ne (tgt := 36) hx hb dX5_firstFault_30 (by decide) (fun c10 => ?_) (fun c10 => ?_)
        · replace hres := (if_pos (bI_t c10)).symm.trans hres
          refine lv_iinc (v := (x4 + 1)) (lv' := [(4, .int (x4 + 1)), (3, .int x3), (0, .ref (A (19 + k0))), (1, .int a1), (2, .int a2)]) hx hb dX5_firstFault_36 hl (k := 1) rfl rfl (by decide) rfl (fun ls hl => ?_)
          refine lv_goto (tgt := 10) hx hb dX5_firstFault_39 (by decide) ?_
          exact ih10 x3 (x4 + 1) hres ls (lv_sub hl [1, 0, 2, 3, 4] rfl)
        · replace hres := (if_neg (bI_f c10)).symm.trans hres
          refine lv_iload hx hb dX5_firstFault_33 (lv_at hl 1 rfl) ?_
          obtain rfl := Option.some.inj hres
          exact W.iret hx hb hr (fun t ht hW => ⟨rfl, ht⟩) (fun _ h => absurd h List.not_mem_nil) dX5_firstFault_35
  exact w10 80 y1 (0 : Int32) hres ls (lv_sub hl [1, 0, 2, 3, 4] rfl)
abbrev rm_X5_fill : Room := { frames := 2, cells := 0, slots := 0, locals := 42 }
def f_X5_fill (v : Nat → Int32) (r : Nat → Nat → Int32) (k0 : Nat) (k1 : Nat) (a2 : Int32) : Option ST := (f_X4_at v r k1 (a2 + 1)).bind (fun y1 => (f_X5_digit v (va_up r 0 (upd (r 0) k0 (f_X5_kindOf y1))) k1 (a2 + 2)).bind (fun y3 => (f_X5_digit v (va_up (va_up r 0 (upd (r 0) k0 (f_X5_kindOf y1))) 1 (upd ((va_up r 0 (upd (r 0) k0 (f_X5_kindOf y1))) 1) k0 y3)) k1 (a2 + 3)).bind (fun y4 => (f_X5_digit v (va_up (va_up (va_up r 0 (upd (r 0) k0 (f_X5_kindOf y1))) 1 (upd ((va_up r 0 (upd (r 0) k0 (f_X5_kindOf y1))) 1) k0 y3)) 2 (upd ((va_up (va_up r 0 (upd (r 0) k0 (f_X5_kindOf y1))) 1 (upd ((va_up r 0 (upd (r 0) k0 (f_X5_kindOf y1))) 1) k0 y3)) 2) k0 y4)) k1 (a2 + 4)).bind (fun y5 => (f_X5_digit v (va_up (va_up (va_up r 0 (upd (r 0) k0 (f_X5_kindOf y1))) 1 (upd ((va_up r 0 (upd (r 0) k0 (f_X5_kindOf y1))) 1) k0 y3)) 2 (upd ((va_up (va_up r 0 (upd (r 0) k0 (f_X5_kindOf y1))) 1 (upd ((va_up r 0 (upd (r 0) k0 (f_X5_kindOf y1))) 1) k0 y3)) 2) k0 y4)) k1 (a2 + 5)).bind (fun y6 => some ((v, (va_up (va_up (va_up (va_up r 0 (upd (r 0) k0 (f_X5_kindOf y1))) 1 (upd ((va_up r 0 (upd (r 0) k0 (f_X5_kindOf y1))) 1) k0 y3)) 2 (upd ((va_up (va_up r 0 (upd (r 0) k0 (f_X5_kindOf y1))) 1 (upd ((va_up r 0 (upd (r 0) k0 (f_X5_kindOf y1))) 1) k0 y3)) 2) k0 y4)) 3 (upd ((va_up (va_up (va_up r 0 (upd (r 0) k0 (f_X5_kindOf y1))) 1 (upd ((va_up r 0 (upd (r 0) k0 (f_X5_kindOf y1))) 1) k0 y3)) 2 (upd ((va_up (va_up r 0 (upd (r 0) k0 (f_X5_kindOf y1))) 1 (upd ((va_up r 0 (upd (r 0) k0 (f_X5_kindOf y1))) 1) k0 y3)) 2) k0 y4)) 3) k0 ((10 * y5) + y6))))))))))
set_option maxHeartbeats 4000000 in
set_option maxRecDepth 100000 in
theorem c_X5_fill (l : Launch) (D : va_G) (cy : Nat → ClassId) (A : Nat → Nat) (X : va_W) (A0 : Nat → Prop) (v : Nat → Int32) (r : Nat → Nat → Int32) (k0 : Nat) (hk0 : k0 < 6) (k1 : Nat) (hk1 : k1 < 4) (a2 : Int32) (v2 : Nat → Int32) (r2 : Nat → Nat → Int32) (hres : f_X5_fill v r k0 k1 a2 = some (v2, r2)) : Met l yX5_fill wsX5_fill rm_X5_fill (va_Pc [.ref (A (13 + k0)), .ref (A (19 + k1)), .int a2] (GW D (tyC cy) (pcC cy A v r ++ X) A0)) (QW none (GW D (tyC cy) (pcC cy A v2 r2 ++ X) A0) A0) 0 0 A0 := by
  refine Met.ofW (cc := cX5_fill) (maxL := 3) (ret := none) (by decide) rfl ?_
  intro p e s m args below meth c s₁ B hml hv
  obtain ⟨hargs, hP, hK, hD0, hN⟩ := hv
  have hx := B.exec
  have hb := B.bytes
  have hr := B.returns
  have hts := atoms_spec (ws := wsX5_fill) B.pre
  have hown : s.vm.findClass RX5 = some m.cls := findClass_of_methodNamed B.named
  have hlocks := B.notSynchronized
  have hI : IW D (pcC cy A v r ++ X) A0 s.heap s.heap [] := ⟨hP, hD0, va_S.rf⟩
  have S : CallFix p m c cX5_fill 3 s args wsX5_fill RX5 := ⟨hx, hb, hml, hown, hts⟩
  have in0 : ∀ w ∈ wsX00, w ∈ wsX5_fill := fun _ h => List.mem_cons_of_mem _ (List.mem_append_left _ (List.mem_append_right _ h))
  have hl := lv_entry ([.ref (A (13 + k0)), .ref (A (19 + k1)), .int a2]) (n := 3) (Nat.le_of_ble_eq_true rfl)
  have hE : entryFrame m args 3 = F0 m 0 ((lg_sl ([.ref (A (13 + k0)), .ref (A (19 + k1)), .int a2]) ++ List.replicate (3 - (lg_sl ([.ref (A (13 + k0)), .ref (A (19 + k1)), .int a2])).length) Slot.unset).toArray) [] := by rw [hargs]; exact lg_entry_eq m [.ref (A (13 + k0)), .ref (A (19 + k1)), .int a2] 3
  rw [hE]
  generalize (lg_sl ([.ref (A (13 + k0)), .ref (A (19 + k1)), .int a2]) ++ List.replicate (3 - (lg_sl ([.ref (A (13 + k0)), .ref (A (19 + k1)), .int a2])).length) Slot.unset).toArray = ls at hl ⊢
  have hl : lv_has ls 3 [(0, .ref (A (13 + k0))), (1, .ref (A (19 + k1))), (2, .int a2)] := hl
  unfold f_X5_fill at hres
  refine lv_aload_n hx hb dX5_fill_0 rfl (lv_at hl 0 rfl) ?_
  refine lv_aload_n hx hb dX5_fill_1 rfl (lv_at hl 1 rfl) ?_
  refine lv_iload_n hx hb dX5_fill_2 rfl (lv_at hl 2 rfl) ?_
  refine lv_iconst (v := 1) hx hb dX5_fill_3 (by decide) ?_
  refine lv_iadd hx hb dX5_fill_4 ?_
  obtain ⟨y1, e1, hres⟩ := bd hres
  refine ro_v S (c_X4_at l D cy A X A0 v r k1 hk1 (a2 + 1) y1 e1) (cwV 1 hts gX5_fill_X4_at rfl rfl rfl (by decide +kernel) ⟨Nat.le_of_ble_eq_true rfl, Nat.le_of_ble_eq_true rfl⟩) hI hK hN (ci := 4) rfl (atC_sh hk1) rfl rfl hl.1 rfl (Nat.le_of_ble_eq_true rfl) dX5_fill_5 ⟨Nat.zero_le _, Nat.zero_le _⟩ ?_
  refine pu_s S (c_X5_kindOf l y1 _ rfl) (va_cwS 1 hts gX5_fill_X5_kindOf rfl rfl rfl (by decide +kernel) ⟨Nat.le_of_ble_eq_true rfl, Nat.le_of_ble_eq_true rfl⟩) hN rfl hl.1 rfl (Nat.le_of_ble_eq_true rfl) dX5_fill_8 ⟨Nat.zero_le _, Nat.zero_le _⟩ ?_
  refine pC_X0_kind hk0 hx hb hts in0 hown hK hI (hts (.fieldLink RX5 65 "TrickHouse$Article" "kind" "I") (by decide +kernel)) dX5_fill_11 (fun H locs hI => ?_)
  refine lv_aload_n hx hb dX5_fill_14 rfl (lv_at hl 0 rfl) ?_
  refine lv_aload_n hx hb dX5_fill_15 rfl (lv_at hl 1 rfl) ?_
  refine lv_iload_n hx hb dX5_fill_16 rfl (lv_at hl 2 rfl) ?_
  refine lv_iconst (v := 2) hx hb dX5_fill_17 (by decide) ?_
  refine lv_iadd hx hb dX5_fill_18 ?_
  obtain ⟨y3, e3, hres⟩ := bd hres
  refine ro_s S (c_X5_digit l D cy A X A0 v (va_up r 0 (upd (r 0) k0 (f_X5_kindOf y1))) k1 hk1 (a2 + 2) y3 e3) (va_cwS 2 hts gX5_fill_X5_digit rfl rfl rfl (by decide +kernel) ⟨Nat.le_of_ble_eq_true rfl, Nat.le_of_ble_eq_true rfl⟩) hI hK hN rfl hl.1 rfl (Nat.le_of_ble_eq_true rfl) dX5_fill_19 ⟨Nat.zero_le _, Nat.zero_le _⟩ ?_
  refine pC_X0_bulk hk0 hx hb hts in0 hown hK hI (hts (.fieldLink RX5 70 "TrickHouse$Article" "bulk" "I") (by decide +kernel)) dX5_fill_22 (fun H locs hI => ?_)
  refine lv_aload_n hx hb dX5_fill_25 rfl (lv_at hl 0 rfl) ?_
  refine lv_aload_n hx hb dX5_fill_26 rfl (lv_at hl 1 rfl) ?_
  refine lv_iload_n hx hb dX5_fill_27 rfl (lv_at hl 2 rfl) ?_
  refine lv_iconst (v := 3) hx hb dX5_fill_28 (by decide) ?_
  refine lv_iadd hx hb dX5_fill_29 ?_
  obtain ⟨y4, e4, hres⟩ := bd hres
  refine ro_s S (c_X5_digit l D cy A X A0 v (va_up (va_up r 0 (upd (r 0) k0 (f_X5_kindOf y1))) 1 (upd ((va_up r 0 (upd (r 0) k0 (f_X5_kindOf y1))) 1) k0 y3)) k1 hk1 (a2 + 3) y4 e4) (va_cwS 2 hts gX5_fill_X5_digit rfl rfl rfl (by decide +kernel) ⟨Nat.le_of_ble_eq_true rfl, Nat.le_of_ble_eq_true rfl⟩) hI hK hN rfl hl.1 rfl (Nat.le_of_ble_eq_true rfl) dX5_fill_30 ⟨Nat.zero_le _, Nat.zero_le _⟩ ?_
  refine pC_X0_gaiety hk0 hx hb hts in0 hown hK hI (hts (.fieldLink RX5 73 "TrickHouse$Article" "gaiety" "I") (by decide +kernel)) dX5_fill_33 (fun H locs hI => ?_)
  refine lv_aload_n hx hb dX5_fill_36 rfl (lv_at hl 0 rfl) ?_
  refine lv_bipush (v := 10) hx hb dX5_fill_37 (by decide) ?_
  refine lv_aload_n hx hb dX5_fill_39 rfl (lv_at hl 1 rfl) ?_
  refine lv_iload_n hx hb dX5_fill_40 rfl (lv_at hl 2 rfl) ?_
  refine lv_iconst (v := 4) hx hb dX5_fill_41 (by decide) ?_
  refine lv_iadd hx hb dX5_fill_42 ?_
  obtain ⟨y5, e5, hres⟩ := bd hres
  refine ro_s S (c_X5_digit l D cy A X A0 v (va_up (va_up (va_up r 0 (upd (r 0) k0 (f_X5_kindOf y1))) 1 (upd ((va_up r 0 (upd (r 0) k0 (f_X5_kindOf y1))) 1) k0 y3)) 2 (upd ((va_up (va_up r 0 (upd (r 0) k0 (f_X5_kindOf y1))) 1 (upd ((va_up r 0 (upd (r 0) k0 (f_X5_kindOf y1))) 1) k0 y3)) 2) k0 y4)) k1 hk1 (a2 + 4) y5 e5) (va_cwS 2 hts gX5_fill_X5_digit rfl rfl rfl (by decide +kernel) ⟨Nat.le_of_ble_eq_true rfl, Nat.le_of_ble_eq_true rfl⟩) hI hK hN rfl hl.1 rfl (Nat.le_of_ble_eq_true rfl) dX5_fill_43 ⟨Nat.zero_le _, Nat.zero_le _⟩ ?_
  refine lv_imul hx hb dX5_fill_46 ?_
  refine lv_aload_n hx hb dX5_fill_47 rfl (lv_at hl 1 rfl) ?_
  refine lv_iload_n hx hb dX5_fill_48 rfl (lv_at hl 2 rfl) ?_
  refine lv_iconst (v := 5) hx hb dX5_fill_49 (by decide) ?_
  refine lv_iadd hx hb dX5_fill_50 ?_
  obtain ⟨y6, e6, hres⟩ := bd hres
  refine ro_s S (c_X5_digit l D cy A X A0 v (va_up (va_up (va_up r 0 (upd (r 0) k0 (f_X5_kindOf y1))) 1 (upd ((va_up r 0 (upd (r 0) k0 (f_X5_kindOf y1))) 1) k0 y3)) 2 (upd ((va_up (va_up r 0 (upd (r 0) k0 (f_X5_kindOf y1))) 1 (upd ((va_up r 0 (upd (r 0) k0 (f_X5_kindOf y1))) 1) k0 y3)) 2) k0 y4)) k1 hk1 (a2 + 5) y6 e6) (va_cwS 2 hts gX5_fill_X5_digit rfl rfl rfl (by decide +kernel) ⟨Nat.le_of_ble_eq_true rfl, Nat.le_of_ble_eq_true rfl⟩) hI hK hN rfl hl.1 rfl (Nat.le_of_ble_eq_true rfl) dX5_fill_51 ⟨Nat.zero_le _, Nat.zero_le _⟩ ?_
  refine lv_iadd hx hb dX5_fill_54 ?_
  refine pC_X0_longing hk0 hx hb hts in0 hown hK hI (hts (.fieldLink RX5 76 "TrickHouse$Article" "longing" "I") (by decide +kernel)) dX5_fill_55 (fun H locs hI => ?_)
  obtain ⟨rfl, rfl⟩ := pr2 hres
  exact W.vret hx hb hr (fun t ht hW => ⟨rfl, ⟨by rw [ht]; exact hI.1, va_K.moved hW.alike hK, hI.2.1, NW.warm hW hN⟩, hI.2.2.F ht⟩) hI.2.2.2.2 dX5_fill_58
abbrev rm_X5_build : Room := { frames := 3, cells := 0, slots := 0, locals := 68 }
def f_X5_build_98 (k1 : Nat) (a2 : Int32) (a3 : Int32) : Nat → Int32 → Int32 → (Nat → Int32) → (Nat → Nat → Int32) → Option ST
  | 0, _, _, _, _ => none
  | n98 + 1, x5, x6, v, r => (if (v 2) ≤ x6 then some (((upd v 5 0), r)) else if inR x6 6 = true then (f_X5_fill v r x6.toNatClampNeg k1 (x5 + (x6 * 6))).bind (fun y7 => f_X5_build_98 k1 a2 a3 n98 x5 (x6 + 1) y7.1 y7.2) else none)
theorem f_X5_build_98_s (k1 : Nat) (a2 : Int32) (a3 : Int32) (n98 : Nat) (x5 : Int32) (x6 : Int32) (v : (Nat → Int32)) (r : (Nat → Nat → Int32)) : f_X5_build_98 k1 a2 a3 (n98 + 1) x5 x6 v r = (if (v 2) ≤ x6 then some (((upd v 5 0), r)) else if inR x6 6 = true then (f_X5_fill v r x6.toNatClampNeg k1 (x5 + (x6 * 6))).bind (fun y7 => f_X5_build_98 k1 a2 a3 n98 x5 (x6 + 1) y7.1 y7.2) else none) := rfl
def f_X5_build_39 (k1 : Nat) (a2 : Int32) (a3 : Int32) : Nat → Int32 → Int32 → (Nat → Int32) → (Nat → Nat → Int32) → Option ST
  | 0, _, _, _, _ => none
  | n39 + 1, x4, x5, v, r => (if x4 ≤ x5 then f_X5_build_98 k1 a2 a3 80 ((a2 + 4) + x4) (0 : Int32) (upd v 2 (if 6 < (((a3 - 4) - x4) / 6) then 6 else (((a3 - 4) - x4) / 6))) r else (f_X5_digit v r k1 ((a2 + 4) + x5)).bind (fun y8 => if inR x5 4 = true then f_X5_build_39 k1 a2 a3 n39 x4 (x5 + 1) v (va_up r 4 (upd (r 4) x5.toNatClampNeg y8)) else none))
theorem f_X5_build_39_s (k1 : Nat) (a2 : Int32) (a3 : Int32) (n39 : Nat) (x4 : Int32) (x5 : Int32) (v : (Nat → Int32)) (r : (Nat → Nat → Int32)) : f_X5_build_39 k1 a2 a3 (n39 + 1) x4 x5 v r = (if x4 ≤ x5 then f_X5_build_98 k1 a2 a3 80 ((a2 + 4) + x4) (0 : Int32) (upd v 2 (if 6 < (((a3 - 4) - x4) / 6) then 6 else (((a3 - 4) - x4) / 6))) r else (f_X5_digit v r k1 ((a2 + 4) + x5)).bind (fun y8 => if inR x5 4 = true then f_X5_build_39 k1 a2 a3 n39 x4 (x5 + 1) v (va_up r 4 (upd (r 4) x5.toNatClampNeg y8)) else none)) := rfl
def f_X5_build (v : Nat → Int32) (r : Nat → Nat → Int32) (k1 : Nat) (a2 : Int32) (a3 : Int32) : Option ST := (f_X5_roomsIn v r k1 a2 a3).bind (fun y1 => (f_X5_digit v r k1 (a2 + 2)).bind (fun y2 => (f_X5_digit v r k1 (a2 + 1)).bind (fun y3 => f_X5_build_39 k1 a2 a3 80 y1 (0 : Int32) (upd (upd v 4 ((8 * y2) + y3)) 3 y1) r)))
set_option maxHeartbeats 4000000 in
set_option maxRecDepth 100000 in
theorem c_X5_build (l : Launch) (D : va_G) (cy : Nat → ClassId) (A : Nat → Nat) (X : va_W) (A0 : Nat → Prop) (v : Nat → Int32) (r : Nat → Nat → Int32) (k1 : Nat) (hk1 : k1 < 4) (a2 : Int32) (a3 : Int32) (v2 : Nat → Int32) (r2 : Nat → Nat → Int32) (hres : f_X5_build v r k1 a2 a3 = some (v2, r2)) : Met l yX5_build wsX5_build rm_X5_build (va_Pc [.ref (A 1), .ref (A (19 + k1)), .int a2, .int a3] (GW D (tyC cy) (pcC cy A v r ++ X) A0)) (QW none (GW D (tyC cy) (pcC cy A v2 r2 ++ X) A0) A0) 0 0 A0 := by
  refine Met.ofW (cc := cX5_build) (maxL := 7) (ret := none) (by decide) rfl ?_
  intro p e s m args below meth c s₁ B hml hv
  obtain ⟨hargs, hP, hK, hD0, hN⟩ := hv
  have hx := B.exec
  have hb := B.bytes
  have hr := B.returns
  have hts := atoms_spec (ws := wsX5_build) B.pre
  have hown : s.vm.findClass RX5 = some m.cls := findClass_of_methodNamed B.named
  have hlocks := B.notSynchronized
  have hI : IW D (pcC cy A v r ++ X) A0 s.heap s.heap [] := ⟨hP, hD0, va_S.rf⟩
  have S : CallFix p m c cX5_build 7 s args wsX5_build RX5 := ⟨hx, hb, hml, hown, hts⟩
  have in1 : ∀ w ∈ wsX10, w ∈ wsX5_build := fun _ h => List.mem_cons_of_mem _ (List.mem_append_left _ (List.mem_append_left _ (List.mem_append_right _ h)))
  have hl := lv_entry ([.ref (A 1), .ref (A (19 + k1)), .int a2, .int a3]) (n := 7) (Nat.le_of_ble_eq_true rfl)
  have hE : entryFrame m args 7 = F0 m 0 ((lg_sl ([.ref (A 1), .ref (A (19 + k1)), .int a2, .int a3]) ++ List.replicate (7 - (lg_sl ([.ref (A 1), .ref (A (19 + k1)), .int a2, .int a3])).length) Slot.unset).toArray) [] := by rw [hargs]; exact lg_entry_eq m [.ref (A 1), .ref (A (19 + k1)), .int a2, .int a3] 7
  rw [hE]
  generalize (lg_sl ([.ref (A 1), .ref (A (19 + k1)), .int a2, .int a3]) ++ List.replicate (7 - (lg_sl ([.ref (A 1), .ref (A (19 + k1)), .int a2, .int a3])).length) Slot.unset).toArray = ls at hl ⊢
  have hl : lv_has ls 7 [(0, .ref (A 1)), (1, .ref (A (19 + k1))), (2, .int a2), (3, .int a3)] := hl
  unfold f_X5_build at hres
  refine lv_aload_n hx hb dX5_build_0 rfl (lv_at hl 1 rfl) ?_
  refine lv_iload_n hx hb dX5_build_1 rfl (lv_at hl 2 rfl) ?_
  refine lv_iload_n hx hb dX5_build_2 rfl (lv_at hl 3 rfl) ?_
  obtain ⟨y1, e1, hres⟩ := bd hres
  refine ro_s S (c_X5_roomsIn l D cy A X A0 v r k1 hk1 a2 a3 y1 e1) (va_cwS 3 hts gX5_build_X5_roomsIn rfl rfl rfl (by decide +kernel) ⟨Nat.le_of_ble_eq_true rfl, Nat.le_of_ble_eq_true rfl⟩) hI hK hN rfl hl.1 rfl (Nat.le_of_ble_eq_true rfl) dX5_build_3 ⟨Nat.zero_le _, Nat.zero_le _⟩ ?_
  refine lv_istore (lv' := [(4, .int y1), (0, .ref (A 1)), (1, .ref (A (19 + k1))), (2, .int a2), (3, .int a3)]) hx hb dX5_build_6 hl (by decide) rfl (fun ls hl => ?_)
  refine lv_aload_n hx hb dX5_build_8 rfl (lv_at hl 1 rfl) ?_
  refine lv_bipush (v := 8) hx hb dX5_build_9 (by decide) ?_
  refine lv_aload_n hx hb dX5_build_11 rfl (lv_at hl 2 rfl) ?_
  refine lv_iload_n hx hb dX5_build_12 rfl (lv_at hl 3 rfl) ?_
  refine lv_iconst (v := 2) hx hb dX5_build_13 (by decide) ?_
  refine lv_iadd hx hb dX5_build_14 ?_
  obtain ⟨y2, e2, hres⟩ := bd hres
  refine ro_s S (c_X5_digit l D cy A X A0 v r k1 hk1 (a2 + 2) y2 e2) (va_cwS 2 hts gX5_build_X5_digit rfl rfl rfl (by decide +kernel) ⟨Nat.le_of_ble_eq_true rfl, Nat.le_of_ble_eq_true rfl⟩) hI hK hN rfl hl.1 rfl (Nat.le_of_ble_eq_true rfl) dX5_build_15 ⟨Nat.zero_le _, Nat.zero_le _⟩ ?_
  refine lv_imul hx hb dX5_build_18 ?_
  refine lv_aload_n hx hb dX5_build_19 rfl (lv_at hl 2 rfl) ?_
  refine lv_iload_n hx hb dX5_build_20 rfl (lv_at hl 3 rfl) ?_
  refine lv_iconst (v := 1) hx hb dX5_build_21 (by decide) ?_
  refine lv_iadd hx hb dX5_build_22 ?_
  obtain ⟨y3, e3, hres⟩ := bd hres
  refine ro_s S (c_X5_digit l D cy A X A0 v r k1 hk1 (a2 + 1) y3 e3) (va_cwS 2 hts gX5_build_X5_digit rfl rfl rfl (by decide +kernel) ⟨Nat.le_of_ble_eq_true rfl, Nat.le_of_ble_eq_true rfl⟩) hI hK hN rfl hl.1 rfl (Nat.le_of_ble_eq_true rfl) dX5_build_23 ⟨Nat.zero_le _, Nat.zero_le _⟩ ?_
  refine lv_iadd hx hb dX5_build_26 ?_
  refine pC_X1_corner hx hb hts in1 hown hK hI (hts (.fieldLink RX5 29 "TrickHouse$House" "corner" "I") (by decide +kernel)) dX5_build_27 (fun H locs hI => ?_)
  refine lv_aload_n hx hb dX5_build_30 rfl (lv_at hl 1 rfl) ?_
  refine lv_iload hx hb dX5_build_31 (lv_at hl 0 rfl) ?_
  refine pC_X1_roomCount hx hb hts in1 hown hK hI (hts (.fieldLink RX5 35 "TrickHouse$House" "roomCount" "I") (by decide +kernel)) dX5_build_33 (fun H locs hI => ?_)
  refine lv_iconst (v := 0) hx hb dX5_build_36 (by decide) ?_
  refine lv_istore (lv' := [(5, .int 0), (4, .int y1), (0, .ref (A 1)), (1, .ref (A (19 + k1))), (2, .int a2), (3, .int a3)]) hx hb dX5_build_37 hl (by decide) rfl (fun ls hl => ?_)
  have w39 : ∀ (n39 : Nat) (x4 : Int32) (x5 : Int32) (v : (Nat → Int32)) (r : (Nat → Nat → Int32)), ∀ (H : Heap) (locs : List Loc), IW D (pcC cy A v r ++ X) A0 s.heap H locs → f_X5_build_39 k1 a2 a3 n39 x4 x5 v r = some (v2, r2) → ∀ ls : Array Slot, lv_has ls 7 [(4, .int x4), (5, .int x5), (0, .ref (A 1)), (1, .ref (A (19 + k1))), (2, .int a2), (3, .int a3)] → W p l e (headSpec wsX5_build rm_X5_build).room s m args below meth c H locs 0 0 (MQ below (QW none (GW D (tyC cy) (pcC cy A v2 r2 ++ X) A0) A0) args s 0 0 A0) (F0 m 39 ls []) := by
    intro n39
    induction n39 with
    | zero =>
      intro x4 x5 v r H locs hI hres
      have hres : (none : Option ST) = some (v2, r2) := hres
      cases hres
    | succ n39 ih39 =>
      intro x4 x5 v r H locs hI hres ls hl
      replace hres := (f_X5_build_39_s k1 a2 a3 n39 x4 x5 v r).symm.trans hres
      refine lv_iload hx hb dX5_build_39 (lv_at hl 1 rfl) ?_
      refine lv_iload hx hb dX5_build_41 (lv_at hl 0 rfl) ?_
      refine lv_icmp_ge (tgt := 69) hx hb dX5_build_43 (by decide) (fun c4 => ?_) (fun c4 => ?_)
      · replace hres := (if_pos c4).symm.trans hres
        refine lv_iload_n hx hb dX5_build_69 rfl (lv_at hl 4 rfl) ?_
        refine lv_iconst (v := 4) hx hb dX5_build_70 (by decide) ?_
        refine lv_iadd hx hb dX5_build_71 ?_
        refine lv_iload hx hb dX5_build_72 (lv_at hl 0 rfl) ?_
        refine lv_iadd hx hb dX5_build_74 ?_
        refine lv_istore (lv' := [(5, .int ((a2 + 4) + x4)), (4, .int x4), (0, .ref (A 1)), (1, .ref (A (19 + k1))), (2, .int a2), (3, .int a3)]) hx hb dX5_build_75 hl (by decide) rfl (fun ls hl => ?_)
        refine lv_aload_n hx hb dX5_build_77 rfl (lv_at hl 2 rfl) ?_
        refine lv_iload_n hx hb dX5_build_78 rfl (lv_at hl 5 rfl) ?_
        refine lv_iconst (v := 4) hx hb dX5_build_79 (by decide) ?_
        refine lv_isub hx hb dX5_build_80 ?_
        refine lv_iload hx hb dX5_build_81 (lv_at hl 1 rfl) ?_
        refine lv_isub hx hb dX5_build_83 ?_
        refine lv_bipush (v := 6) hx hb dX5_build_84 (by decide) ?_
        refine lv_idiv hx hb dX5_build_86 (by decide) ?_
        refine lv_bipush (v := 6) hx hb dX5_build_87 (by decide) ?_
        refine va_mmin hx hb (hml.trans hl.1.symm) hown (hts (.methodLink RX5 42 Lib.Math.min.name) (by decide +kernel)) (hts (.static Lib.Math.min.name) (by decide +kernel)) (hts (.initialized "java/lang/Math") (by decide +kernel)) (hts (.code Lib.Math.min.name Lib.Math.min.code 2 (some .int)) (List.mem_of_getElem? (i := 7) rfl)) (Nat.le_of_ble_eq_true rfl) (Nat.le_of_ble_eq_true rfl) (Nat.zero_le _) (Nat.zero_le _) dX5_build_89 ?_
        refine pC_X1_articleCount hx hb hts in1 hown hK hI (hts (.fieldLink RX5 48 "TrickHouse$House" "articleCount" "I") (by decide +kernel)) dX5_build_92 (fun H locs hI => ?_)
        refine lv_iconst (v := 0) hx hb dX5_build_95 (by decide) ?_
        refine lv_istore (lv' := [(6, .int 0), (5, .int ((a2 + 4) + x4)), (4, .int x4), (0, .ref (A 1)), (1, .ref (A (19 + k1))), (2, .int a2), (3, .int a3)]) hx hb dX5_build_96 hl (by decide) rfl (fun ls hl => ?_)
        have w98 : ∀ (n98 : Nat) (x5 : Int32) (x6 : Int32) (v : (Nat → Int32)) (r : (Nat → Nat → Int32)), ∀ (H : Heap) (locs : List Loc), IW D (pcC cy A v r ++ X) A0 s.heap H locs → f_X5_build_98 k1 a2 a3 n98 x5 x6 v r = some (v2, r2) → ∀ ls : Array Slot, lv_has ls 7 [(5, .int x5), (6, .int x6), (0, .ref (A 1)), (1, .ref (A (19 + k1)))] → W p l e (headSpec wsX5_build rm_X5_build).room s m args below meth c H locs 0 0 (MQ below (QW none (GW D (tyC cy) (pcC cy A v2 r2 ++ X) A0) A0) args s 0 0 A0) (F0 m 98 ls []) := by
          intro n98
          induction n98 with
          | zero =>
            intro x5 x6 v r H locs hI hres
            have hres : (none : Option ST) = some (v2, r2) := hres
            cases hres
          | succ n98 ih98 =>
            intro x5 x6 v r H locs hI hres ls hl
            replace hres := (f_X5_build_98_s k1 a2 a3 n98 x5 x6 v r).symm.trans hres
            refine lv_iload hx hb dX5_build_98 (lv_at hl 1 rfl) ?_
            refine lv_aload_n hx hb dX5_build_100 rfl (lv_at hl 2 rfl) ?_
            refine gC_X1_articleCount hx hb hts in1 hown hK hI (hts (.fieldLink RX5 48 "TrickHouse$House" "articleCount" "I") (by decide +kernel)) dX5_build_101 ?_
            refine lv_icmp_ge (tgt := 132) hx hb dX5_build_104 (by decide) (fun c5 => ?_) (fun c5 => ?_)
            · replace hres := (if_pos c5).symm.trans hres
              refine lv_aload_n hx hb dX5_build_132 rfl (lv_at hl 2 rfl) ?_
              refine lv_iconst (v := 0) hx hb dX5_build_133 (by decide) ?_
              refine pC_X1_present hx hb hts in1 hown hK hI (hts (.fieldLink RX5 59 "TrickHouse$House" "present" "I") (by decide +kernel)) dX5_build_134 (fun H locs hI => ?_)
              obtain ⟨rfl, rfl⟩ := pr2 hres
              exact W.vret hx hb hr (fun t ht hW => ⟨rfl, ⟨by rw [ht]; exact hI.1, va_K.moved hW.alike hK, hI.2.1, NW.warm hW hN⟩, hI.2.2.F ht⟩) hI.2.2.2.2 dX5_build_137
            · replace hres := (if_neg c5).symm.trans hres
              refine lv_aload_n hx hb dX5_build_107 rfl (lv_at hl 2 rfl) ?_
              refine gC_X1_articles hx hb hts in1 hown hK hI (hts (.fieldLink RX5 51 "TrickHouse$House" "articles" "[LTrickHouse$Article;") (by decide +kernel)) dX5_build_108 ?_
              refine lv_iload hx hb dX5_build_111 (lv_at hl 1 rfl) ?_
              obtain ⟨g6, hres⟩ := gd hres
              refine th_ald (f := fun k => A (13 + k)) hx hb hK hI 2 1 rfl rfl g6 dX5_build_113 ?_
              refine lv_aload_n hx hb dX5_build_114 rfl (lv_at hl 3 rfl) ?_
              refine lv_iload hx hb dX5_build_115 (lv_at hl 0 rfl) ?_
              refine lv_iload hx hb dX5_build_117 (lv_at hl 1 rfl) ?_
              refine lv_bipush (v := 6) hx hb dX5_build_119 (by decide) ?_
              refine lv_imul hx hb dX5_build_121 ?_
              refine lv_iadd hx hb dX5_build_122 ?_
              obtain ⟨y7, e7, hres⟩ := bd hres
              refine rw_s S (c_X5_fill l D cy A X A0 v r x6.toNatClampNeg (inR_lt g6) k1 hk1 (x5 + (x6 * 6)) y7.1 y7.2 e7) (va_cwS 3 hts gX5_build_X5_fill rfl rfl rfl (by decide +kernel) ⟨Nat.le_of_ble_eq_true rfl, Nat.le_of_ble_eq_true rfl⟩) hI hK hN rfl hl.1 rfl (Nat.le_of_ble_eq_true rfl) dX5_build_123 ⟨Nat.zero_le _, Nat.zero_le _⟩ (fun H locs hI => ?_)
              refine lv_iinc (v := (x6 + 1)) (lv' := [(6, .int (x6 + 1)), (5, .int x5), (0, .ref (A 1)), (1, .ref (A (19 + k1)))]) hx hb dX5_build_126 hl (k := 1) rfl rfl (by decide) rfl (fun ls hl => ?_)
              refine lv_goto (tgt := 98) hx hb dX5_build_129 (by decide) ?_
              exact ih98 x5 (x6 + 1) y7.1 y7.2 _ _ hI hres ls (lv_sub hl [1, 0, 2, 3] rfl)
        exact w98 80 ((a2 + 4) + x4) (0 : Int32) (upd v 2 (if 6 < (((a3 - 4) - x4) / 6) then 6 else (((a3 - 4) - x4) / 6))) r _ _ hI hres ls (lv_sub hl [1, 0, 3, 4] rfl)
      · replace hres := (if_neg c4).symm.trans hres
        refine lv_aload_n hx hb dX5_build_46 rfl (lv_at hl 2 rfl) ?_
        refine gC_X1_spaces hx hb hts in1 hown hK hI (hts (.fieldLink RX5 38 "TrickHouse$House" "spaces" "[I") (by decide +kernel)) dX5_build_47 ?_
        refine lv_iload hx hb dX5_build_50 (lv_at hl 1 rfl) ?_
        refine lv_aload_n hx hb dX5_build_52 rfl (lv_at hl 3 rfl) ?_
        refine lv_iload_n hx hb dX5_build_53 rfl (lv_at hl 4 rfl) ?_
        refine lv_iconst (v := 4) hx hb dX5_build_54 (by decide) ?_
        refine lv_iadd hx hb dX5_build_55 ?_
        refine lv_iload hx hb dX5_build_56 (lv_at hl 1 rfl) ?_
        refine lv_iadd hx hb dX5_build_58 ?_
        obtain ⟨y8, e8, hres⟩ := bd hres
        refine ro_s S (c_X5_digit l D cy A X A0 v r k1 hk1 ((a2 + 4) + x5) y8 e8) (va_cwS 2 hts gX5_build_X5_digit rfl rfl rfl (by decide +kernel) ⟨Nat.le_of_ble_eq_true rfl, Nat.le_of_ble_eq_true rfl⟩) hI hK hN rfl hl.1 rfl (Nat.le_of_ble_eq_true rfl) dX5_build_59 ⟨Nat.zero_le _, Nat.zero_le _⟩ ?_
        obtain ⟨g9, hres⟩ := gd hres
        refine th_ist hx hb hK hI 3 0 rfl rfl g9 stC_r4 dX5_build_62 (fun H locs hI => ?_)
        refine lv_iinc (v := (x5 + 1)) (lv' := [(5, .int (x5 + 1)), (4, .int x4), (0, .ref (A 1)), (1, .ref (A (19 + k1))), (2, .int a2), (3, .int a3)]) hx hb dX5_build_63 hl (k := 1) rfl rfl (by decide) rfl (fun ls hl => ?_)
        refine lv_goto (tgt := 39) hx hb dX5_build_66 (by decide) ?_
        exact ih39 x4 (x5 + 1) v (va_up r 4 (upd (r 4) x5.toNatClampNeg y8)) _ _ hI hres ls (lv_sub hl [1, 0, 2, 3, 4, 5] rfl)
  exact w39 80 y1 (0 : Int32) (upd (upd v 4 ((8 * y2) + y3)) 3 y1) r _ _ hI hres ls (lv_sub hl [1, 0, 2, 3, 4, 5] rfl)
abbrev rm_X6_refusalOf : Room := { frames := 1, cells := 0, slots := 0, locals := 22 }
def f_X6_refusalOf_3 (v : Nat → Int32) (r : Nat → Nat → Int32) (k1 : Nat) (a2 : Int32) (a3 : Int32) : Nat → Int32 → Option Int32
  | 0, _ => none
  | n3 + 1, x4 => (if a3 ≤ x4 then some (0) else (f_X4_at v r k1 (a2 + (2 * x4))).bind (fun y2 => (if (f_X1_isArticle v r y2) = true then (f_X4_at v r k1 ((a2 + (2 * x4)) + 1)).bind (fun y5 => (if (f_X7_within y5 (0 : Int32) (1 : Int32)) = true then f_X6_refusalOf_3 v r k1 a2 a3 n3 (x4 + 1) else some ((-2)))) else some ((-1)))))
theorem f_X6_refusalOf_3_s (v : Nat → Int32) (r : Nat → Nat → Int32) (k1 : Nat) (a2 : Int32) (a3 : Int32) (n3 : Nat) (x4 : Int32) : f_X6_refusalOf_3 v r k1 a2 a3 (n3 + 1) x4 = (if a3 ≤ x4 then some (0) else (f_X4_at v r k1 (a2 + (2 * x4))).bind (fun y2 => (if (f_X1_isArticle v r y2) = true then (f_X4_at v r k1 ((a2 + (2 * x4)) + 1)).bind (fun y5 => (if (f_X7_within y5 (0 : Int32) (1 : Int32)) = true then f_X6_refusalOf_3 v r k1 a2 a3 n3 (x4 + 1) else some ((-2)))) else some ((-1))))) := rfl
def f_X6_refusalOf (v : Nat → Int32) (r : Nat → Nat → Int32) (k1 : Nat) (a2 : Int32) (a3 : Int32) : Option Int32 := f_X6_refusalOf_3 v r k1 a2 a3 80 (0 : Int32)
set_option maxHeartbeats 4000000 in
set_option maxRecDepth 100000 in
theorem c_X6_refusalOf (l : Launch) (D : va_G) (cy : Nat → ClassId) (A : Nat → Nat) (X : va_W) (A0 : Nat → Prop) (v : Nat → Int32) (r : Nat → Nat → Int32) (k1 : Nat) (hk1 : k1 < 4) (a2 : Int32) (a3 : Int32) (res : Int32) (hres : f_X6_refusalOf v r k1 a2 a3 = some res) : Met l yX6_refusalOf wsX6_refusalOf rm_X6_refusalOf (va_Pc [.ref (A 11), .ref (A (19 + k1)), .int a2, .int a3] (GW D (tyC cy) (pcC cy A v r ++ X) A0)) (QR (.int res)) 0 0 (fun _ => False) := by
  refine Met.ofW (cc := cX6_refusalOf) (maxL := 5) (ret := (some .int)) (by decide) rfl ?_
  intro p e s m args below meth c s₁ B hml hv
  obtain ⟨hargs, hP, hK, hD0, hN⟩ := hv
  have hx := B.exec
  have hb := B.bytes
  have hr := B.returns
  have hts := atoms_spec (ws := wsX6_refusalOf) B.pre
  have hown : s.vm.findClass RX6 = some m.cls := findClass_of_methodNamed B.named
  have hlocks := B.notSynchronized
  have hI : IW D (pcC cy A v r ++ X) A0 s.heap s.heap [] := ⟨hP, hD0, va_S.rf⟩
  have S : CallFix p m c cX6_refusalOf 5 s args wsX6_refusalOf RX6 := ⟨hx, hb, hml, hown, hts⟩
  have in6 : ∀ w ∈ wsX60, w ∈ wsX6_refusalOf := fun _ h => List.mem_cons_of_mem _ (List.mem_append_left _ (List.mem_append_left _ (List.mem_append_right _ h)))
  have hl := lv_entry ([.ref (A 11), .ref (A (19 + k1)), .int a2, .int a3]) (n := 5) (Nat.le_of_ble_eq_true rfl)
  have hE : entryFrame m args 5 = F0 m 0 ((lg_sl ([.ref (A 11), .ref (A (19 + k1)), .int a2, .int a3]) ++ List.replicate (5 - (lg_sl ([.ref (A 11), .ref (A (19 + k1)), .int a2, .int a3])).length) Slot.unset).toArray) [] := by rw [hargs]; exact lg_entry_eq m [.ref (A 11), .ref (A (19 + k1)), .int a2, .int a3] 5
  rw [hE]
  generalize (lg_sl ([.ref (A 11), .ref (A (19 + k1)), .int a2, .int a3]) ++ List.replicate (5 - (lg_sl ([.ref (A 11), .ref (A (19 + k1)), .int a2, .int a3])).length) Slot.unset).toArray = ls at hl ⊢
  have hl : lv_has ls 5 [(0, .ref (A 11)), (1, .ref (A (19 + k1))), (2, .int a2), (3, .int a3)] := hl
  unfold f_X6_refusalOf at hres
  refine lv_iconst (v := 0) hx hb dX6_refusalOf_0 (by decide) ?_
  refine lv_istore (lv' := [(4, .int 0), (0, .ref (A 11)), (1, .ref (A (19 + k1))), (2, .int a2), (3, .int a3)]) hx hb dX6_refusalOf_1 hl (by decide) rfl (fun ls hl => ?_)
  have w3 : ∀ (n3 : Nat) (x4 : Int32), f_X6_refusalOf_3 v r k1 a2 a3 n3 x4 = some res → ∀ ls : Array Slot, lv_has ls 5 [(4, .int x4), (0, .ref (A 11)), (1, .ref (A (19 + k1))), (2, .int a2), (3, .int a3)] → W p l e (headSpec wsX6_refusalOf rm_X6_refusalOf).room s m args below meth c s.heap [] 0 0 (MQ below (QR (.int res)) args s 0 0 (fun _ => False)) (F0 m 3 ls []) := by
    intro n3
    induction n3 with
    | zero =>
      intro x4  hres
      have hres : (none : Option Int32) = some res := hres
      cases hres
    | succ n3 ih3 =>
      intro x4  hres ls hl
      replace hres := (f_X6_refusalOf_3_s v r k1 a2 a3 n3 x4).symm.trans hres
      refine lv_iload hx hb dX6_refusalOf_3 (lv_at hl 0 rfl) ?_
      refine lv_iload_n hx hb dX6_refusalOf_5 rfl (lv_at hl 4 rfl) ?_
      refine lv_icmp_ge (tgt := 60) hx hb dX6_refusalOf_6 (by decide) (fun c1 => ?_) (fun c1 => ?_)
      · replace hres := (if_pos c1).symm.trans hres
        refine lv_iconst (v := 0) hx hb dX6_refusalOf_60 (by decide) ?_
        obtain rfl := Option.some.inj hres
        exact W.iret hx hb hr (fun t ht hW => ⟨rfl, ht⟩) (fun _ h => absurd h List.not_mem_nil) dX6_refusalOf_61
      · replace hres := (if_neg c1).symm.trans hres
        refine lv_aload_n hx hb dX6_refusalOf_9 rfl (lv_at hl 1 rfl) ?_
        refine gC_X6_house hx hb hts in6 hown hK hI (hts (.fieldLink RX6 9 "TrickHouse$Year" "house" "LTrickHouse$House;") (by decide +kernel)) dX6_refusalOf_10 ?_
        refine lv_aload_n hx hb dX6_refusalOf_13 rfl (lv_at hl 2 rfl) ?_
        refine lv_iload_n hx hb dX6_refusalOf_14 rfl (lv_at hl 3 rfl) ?_
        refine lv_iconst (v := 2) hx hb dX6_refusalOf_15 (by decide) ?_
        refine lv_iload hx hb dX6_refusalOf_16 (lv_at hl 0 rfl) ?_
        refine lv_imul hx hb dX6_refusalOf_18 ?_
        refine lv_iadd hx hb dX6_refusalOf_19 ?_
        obtain ⟨y2, e2, hres⟩ := bd hres
        refine ro_v S (c_X4_at l D cy A X A0 v r k1 hk1 (a2 + (2 * x4)) y2 e2) (cwV 1 hts gX6_refusalOf_X4_at rfl rfl rfl (by decide +kernel) ⟨Nat.le_of_ble_eq_true rfl, Nat.le_of_ble_eq_true rfl⟩) hI hK hN (ci := 4) rfl (atC_sh hk1) rfl rfl hl.1 rfl (Nat.le_of_ble_eq_true rfl) dX6_refusalOf_20 ⟨Nat.zero_le _, Nat.zero_le _⟩ ?_
        refine ro_v S (c_X1_isArticle l D cy A X A0 v r y2 _ rfl) (cwV 1 hts gX6_refusalOf_X1_isArticle rfl rfl rfl (by decide +kernel) ⟨Nat.le_of_ble_eq_true rfl, Nat.le_of_ble_eq_true rfl⟩) hI hK hN (ci := 1) rfl (atC_1) rfl rfl hl.1 rfl (Nat.le_of_ble_eq_true rfl) dX6_refusalOf_23 ⟨Nat.zero_le _, Nat.zero_le _⟩ ?_
        refine lv_if_ne (tgt := 31) hx hb dX6_refusalOf_26 (by decide) (fun c4 => ?_) (fun c4 => ?_)
        · replace hres := (if_pos (bI_t c4)).symm.trans hres
          refine lv_aload_n hx hb dX6_refusalOf_31 rfl (lv_at hl 2 rfl) ?_
          refine lv_iload_n hx hb dX6_refusalOf_32 rfl (lv_at hl 3 rfl) ?_
          refine lv_iconst (v := 2) hx hb dX6_refusalOf_33 (by decide) ?_
          refine lv_iload hx hb dX6_refusalOf_34 (lv_at hl 0 rfl) ?_
          refine lv_imul hx hb dX6_refusalOf_36 ?_
          refine lv_iadd hx hb dX6_refusalOf_37 ?_
          refine lv_iconst (v := 1) hx hb dX6_refusalOf_38 (by decide) ?_
          refine lv_iadd hx hb dX6_refusalOf_39 ?_
          obtain ⟨y5, e5, hres⟩ := bd hres
          refine ro_v S (c_X4_at l D cy A X A0 v r k1 hk1 ((a2 + (2 * x4)) + 1) y5 e5) (cwV 1 hts gX6_refusalOf_X4_at rfl rfl rfl (by decide +kernel) ⟨Nat.le_of_ble_eq_true rfl, Nat.le_of_ble_eq_true rfl⟩) hI hK hN (ci := 4) rfl (atC_sh hk1) rfl rfl hl.1 rfl (Nat.le_of_ble_eq_true rfl) dX6_refusalOf_40 ⟨Nat.zero_le _, Nat.zero_le _⟩ ?_
          refine lv_iconst (v := 0) hx hb dX6_refusalOf_43 (by decide) ?_
          refine lv_iconst (v := 1) hx hb dX6_refusalOf_44 (by decide) ?_
          refine pu_n S (c_X7_within l y5 (0 : Int32) (1 : Int32) _ rfl) ⟨va_cnB 3 hts gX6_refusalOf_X7_within_n27 rfl rfl rfl hN.2.2.2.2.1 (hts (.initialized RX7) (by decide +kernel)) (by decide +kernel) ⟨Nat.le_of_ble_eq_true rfl, Nat.le_of_ble_eq_true rfl⟩, hts (.static yX7_within) (by decide +kernel), trivial⟩ hN rfl hl.1 rfl (Nat.le_of_ble_eq_true rfl) dX6_refusalOf_45 ⟨Nat.zero_le _, Nat.zero_le _⟩ ?_
          refine lv_if_ne (tgt := 54) hx hb dX6_refusalOf_48 (by decide) (fun c7 => ?_) (fun c7 => ?_)
          · replace hres := (if_pos (bI_t c7)).symm.trans hres
            refine lv_iinc (v := (x4 + 1)) (lv' := [(4, .int (x4 + 1)), (0, .ref (A 11)), (1, .ref (A (19 + k1))), (2, .int a2), (3, .int a3)]) hx hb dX6_refusalOf_54 hl (k := 0) rfl rfl (by decide) rfl (fun ls hl => ?_)
            refine lv_goto (tgt := 3) hx hb dX6_refusalOf_57 (by decide) ?_
            exact ih3 (x4 + 1) hres ls (lv_sub hl [0, 1, 2, 3, 4] rfl)
          · replace hres := (if_neg (bI_f c7)).symm.trans hres
            refine lv_bipush (v := (-2)) hx hb dX6_refusalOf_51 (by decide) ?_
            obtain rfl := Option.some.inj hres
            exact W.iret hx hb hr (fun t ht hW => ⟨rfl, ht⟩) (fun _ h => absurd h List.not_mem_nil) dX6_refusalOf_53
        · replace hres := (if_neg (bI_f c4)).symm.trans hres
          refine lv_iconst (v := (-1)) hx hb dX6_refusalOf_29 (by decide) ?_
          obtain rfl := Option.some.inj hres
          exact W.iret hx hb hr (fun t ht hW => ⟨rfl, ht⟩) (fun _ h => absurd h List.not_mem_nil) dX6_refusalOf_30
  exact w3 80 (0 : Int32) hres ls (lv_sub hl [0, 1, 2, 3, 4] rfl)
abbrev rm_X6_go : Room := { frames := 5, cells := 0, slots := 0, locals := 112 }
def f_X6_go (v : Nat → Int32) (r : Nat → Nat → Int32) (a1 : Int32) : Option ST := (f_X1_companyOf v r a1).bind (fun y1 => (f_X1_laughOf (upd (upd v 8 y1) 9 (((upd v 8 y1) 9) + (f_J6_bitCount_0f7a4 (a1 &&& (((upd v 8 y1) 8) ^^^ (-1)))))) r ((upd (upd v 8 y1) 9 (((upd v 8 y1) 9) + (f_J6_bitCount_0f7a4 (a1 &&& (((upd v 8 y1) 8) ^^^ (-1)))))) 8)).bind (fun y3 => some (((upd (upd (upd v 8 y1) 9 (((upd v 8 y1) 9) + (f_J6_bitCount_0f7a4 (a1 &&& (((upd v 8 y1) 8) ^^^ (-1)))))) 10 (if ((upd (upd v 8 y1) 9 (((upd v 8 y1) 9) + (f_J6_bitCount_0f7a4 (a1 &&& (((upd v 8 y1) 8) ^^^ (-1)))))) 10) < y3 then y3 else ((upd (upd v 8 y1) 9 (((upd v 8 y1) 9) + (f_J6_bitCount_0f7a4 (a1 &&& (((upd v 8 y1) 8) ^^^ (-1)))))) 10))), r))))
set_option maxHeartbeats 4000000 in
set_option maxRecDepth 100000 in
theorem c_X6_go (l : Launch) (D : va_G) (cy : Nat → ClassId) (A : Nat → Nat) (X : va_W) (A0 : Nat → Prop) (v : Nat → Int32) (r : Nat → Nat → Int32) (a1 : Int32) (v2 : Nat → Int32) (r2 : Nat → Nat → Int32) (hres : f_X6_go v r a1 = some (v2, r2)) : Met l yX6_go wsX6_go rm_X6_go (va_Pc [.ref (A 11), .int a1] (GW D (tyC cy) (pcC cy A v r ++ X) A0)) (QW none (GW D (tyC cy) (pcC cy A v2 r2 ++ X) A0) A0) 0 0 A0 := by
  refine Met.ofW (cc := cX6_go) (maxL := 2) (ret := none) (by decide) rfl ?_
  intro p e s m args below meth c s₁ B hml hv
  obtain ⟨hargs, hP, hK, hD0, hN⟩ := hv
  have hx := B.exec
  have hb := B.bytes
  have hr := B.returns
  have hts := atoms_spec (ws := wsX6_go) B.pre
  have hown : s.vm.findClass RX6 = some m.cls := findClass_of_methodNamed B.named
  have hlocks := B.notSynchronized
  have hI : IW D (pcC cy A v r ++ X) A0 s.heap s.heap [] := ⟨hP, hD0, va_S.rf⟩
  have S : CallFix p m c cX6_go 2 s args wsX6_go RX6 := ⟨hx, hb, hml, hown, hts⟩
  have in6 : ∀ w ∈ wsX60, w ∈ wsX6_go := fun _ h => List.mem_cons_of_mem _ (List.mem_append_left _ (List.mem_append_left _ (List.mem_append_right _ h)))
  have hl := lv_entry ([.ref (A 11), .int a1]) (n := 2) (Nat.le_of_ble_eq_true rfl)
  have hE : entryFrame m args 2 = F0 m 0 ((lg_sl ([.ref (A 11), .int a1]) ++ List.replicate (2 - (lg_sl ([.ref (A 11), .int a1])).length) Slot.unset).toArray) [] := by rw [hargs]; exact lg_entry_eq m [.ref (A 11), .int a1] 2
  rw [hE]
  generalize (lg_sl ([.ref (A 11), .int a1]) ++ List.replicate (2 - (lg_sl ([.ref (A 11), .int a1])).length) Slot.unset).toArray = ls at hl ⊢
  have hl : lv_has ls 2 [(0, .ref (A 11)), (1, .int a1)] := hl
  unfold f_X6_go at hres
  refine lv_aload_n hx hb dX6_go_0 rfl (lv_at hl 0 rfl) ?_
  refine lv_aload_n hx hb dX6_go_1 rfl (lv_at hl 0 rfl) ?_
  refine gC_X6_house hx hb hts in6 hown hK hI (hts (.fieldLink RX6 9 "TrickHouse$Year" "house" "LTrickHouse$House;") (by decide +kernel)) dX6_go_2 ?_
  refine lv_iload_n hx hb dX6_go_5 rfl (lv_at hl 1 rfl) ?_
  obtain ⟨y1, e1, hres⟩ := bd hres
  refine ro_v S (c_X1_companyOf l D cy A X A0 v r a1 y1 e1) (cwV 1 hts gX6_go_X1_companyOf rfl rfl rfl (by decide +kernel) ⟨Nat.le_of_ble_eq_true rfl, Nat.le_of_ble_eq_true rfl⟩) hI hK hN (ci := 1) rfl (atC_1) rfl rfl hl.1 rfl (Nat.le_of_ble_eq_true rfl) dX6_go_6 ⟨Nat.zero_le _, Nat.zero_le _⟩ ?_
  refine pC_X6_present hx hb hts in6 hown hK hI (hts (.fieldLink RX6 35 "TrickHouse$Year" "present" "I") (by decide +kernel)) dX6_go_9 (fun H locs hI => ?_)
  refine lv_aload_n hx hb dX6_go_12 rfl (lv_at hl 0 rfl) ?_
  refine lv_dup hx hb dX6_go_13 rfl ?_
  refine gC_X6_away hx hb hts in6 hown hK hI (hts (.fieldLink RX6 36 "TrickHouse$Year" "away" "I") (by decide +kernel)) dX6_go_14 ?_
  refine lv_iload_n hx hb dX6_go_17 rfl (lv_at hl 1 rfl) ?_
  refine lv_aload_n hx hb dX6_go_18 rfl (lv_at hl 0 rfl) ?_
  refine gC_X6_present hx hb hts in6 hown hK hI (hts (.fieldLink RX6 35 "TrickHouse$Year" "present" "I") (by decide +kernel)) dX6_go_19 ?_
  refine lv_iconst (v := (-1)) hx hb dX6_go_22 (by decide) ?_
  refine lv_ixor hx hb dX6_go_23 ?_
  refine lv_iand hx hb dX6_go_24 ?_
  refine pu_s S (c_J6_bitCount_0f7a4 l (a1 &&& (((upd v 8 y1) 8) ^^^ (-1))) _ rfl) (va_cwS 1 hts gX6_go_J6_bitCount_0f7a4 rfl rfl rfl (by decide +kernel) ⟨Nat.le_of_ble_eq_true rfl, Nat.le_of_ble_eq_true rfl⟩) hN rfl hl.1 rfl (Nat.le_of_ble_eq_true rfl) dX6_go_25 ⟨Nat.zero_le _, Nat.zero_le _⟩ ?_
  refine lv_iadd hx hb dX6_go_28 ?_
  refine pC_X6_away hx hb hts in6 hown hK hI (hts (.fieldLink RX6 36 "TrickHouse$Year" "away" "I") (by decide +kernel)) dX6_go_29 (fun H locs hI => ?_)
  refine lv_aload_n hx hb dX6_go_32 rfl (lv_at hl 0 rfl) ?_
  refine lv_aload_n hx hb dX6_go_33 rfl (lv_at hl 0 rfl) ?_
  refine gC_X6_greatest hx hb hts in6 hown hK hI (hts (.fieldLink RX6 39 "TrickHouse$Year" "greatest" "I") (by decide +kernel)) dX6_go_34 ?_
  refine lv_aload_n hx hb dX6_go_37 rfl (lv_at hl 0 rfl) ?_
  refine gC_X6_house hx hb hts in6 hown hK hI (hts (.fieldLink RX6 9 "TrickHouse$Year" "house" "LTrickHouse$House;") (by decide +kernel)) dX6_go_38 ?_
  refine lv_aload_n hx hb dX6_go_41 rfl (lv_at hl 0 rfl) ?_
  refine gC_X6_present hx hb hts in6 hown hK hI (hts (.fieldLink RX6 35 "TrickHouse$Year" "present" "I") (by decide +kernel)) dX6_go_42 ?_
  obtain ⟨y3, e3, hres⟩ := bd hres
  refine ro_v S (c_X1_laughOf l D cy A X A0 (upd (upd v 8 y1) 9 (((upd v 8 y1) 9) + (f_J6_bitCount_0f7a4 (a1 &&& (((upd v 8 y1) 8) ^^^ (-1)))))) r ((upd (upd v 8 y1) 9 (((upd v 8 y1) 9) + (f_J6_bitCount_0f7a4 (a1 &&& (((upd v 8 y1) 8) ^^^ (-1)))))) 8) y3 e3) (cwV 1 hts gX6_go_X1_laughOf rfl rfl rfl (by decide +kernel) ⟨Nat.le_of_ble_eq_true rfl, Nat.le_of_ble_eq_true rfl⟩) hI hK hN (ci := 1) rfl (atC_1) rfl rfl hl.1 rfl (Nat.le_of_ble_eq_true rfl) dX6_go_45 ⟨Nat.zero_le _, Nat.zero_le _⟩ ?_
  refine va_mmax hx hb (hml.trans hl.1.symm) hown (hts (.methodLink RX6 64 Lib.Math.max.name) (by decide +kernel)) (hts (.static Lib.Math.max.name) (by decide +kernel)) (hts (.initialized "java/lang/Math") (by decide +kernel)) (hts (.code Lib.Math.max.name Lib.Math.max.code 2 (some .int)) (List.mem_of_getElem? (i := 8) rfl)) (Nat.le_of_ble_eq_true rfl) (Nat.le_of_ble_eq_true rfl) (Nat.zero_le _) (Nat.zero_le _) dX6_go_48 ?_
  refine pC_X6_greatest hx hb hts in6 hown hK hI (hts (.fieldLink RX6 39 "TrickHouse$Year" "greatest" "I") (by decide +kernel)) dX6_go_51 (fun H locs hI => ?_)
  obtain ⟨rfl, rfl⟩ := pr2 hres
  exact W.vret hx hb hr (fun t ht hW => ⟨rfl, ⟨by rw [ht]; exact hI.1, va_K.moved hW.alike hK, hI.2.1, NW.warm hW hN⟩, hI.2.2.F ht⟩) hI.2.2.2.2 dX6_go_54
abbrev rm_X6_run : Room := { frames := 6, cells := 0, slots := 0, locals := 133 }
def f_X6_run_30 (k1 : Nat) (a2 : Int32) (a3 : Int32) : Nat → Int32 → (Nat → Int32) → (Nat → Nat → Int32) → Option ST
  | 0, _, _, _ => none
  | n30 + 1, x4, v, r => (if a3 ≤ x4 then some ((v, r)) else (if (v 11) = (-9) then (f_X4_at v r k1 (a2 + (2 * x4))).bind (fun y3 => (f_X4_at v r k1 ((a2 + (2 * x4)) + 1)).bind (fun y4 => (if y4 = 1 then (if (bI (f_X7_has (v 8) y3)) = 1 then (f_X6_go v r ((v 8) &&& (((1 : Int32) <<< (y3 &&& 31)) ^^^ (-1)))).bind (fun y13 => f_X6_run_30 k1 a2 a3 n30 (x4 + 1) y13.1 y13.2) else f_X6_run_30 k1 a2 a3 n30 (x4 + 1) (upd v 11 x4) r) else (if (bI (f_X7_has (v 8) y3)) = 0 then (f_X6_go v r ((v 8) ||| ((1 : Int32) <<< (y3 &&& 31)))).bind (fun y9 => f_X6_run_30 k1 a2 a3 n30 (x4 + 1) y9.1 y9.2) else f_X6_run_30 k1 a2 a3 n30 (x4 + 1) (upd v 11 x4) r)))) else some ((v, r))))
theorem f_X6_run_30_s (k1 : Nat) (a2 : Int32) (a3 : Int32) (n30 : Nat) (x4 : Int32) (v : (Nat → Int32)) (r : (Nat → Nat → Int32)) : f_X6_run_30 k1 a2 a3 (n30 + 1) x4 v r = (if a3 ≤ x4 then some ((v, r)) else (if (v 11) = (-9) then (f_X4_at v r k1 (a2 + (2 * x4))).bind (fun y3 => (f_X4_at v r k1 ((a2 + (2 * x4)) + 1)).bind (fun y4 => (if y4 = 1 then (if (bI (f_X7_has (v 8) y3)) = 1 then (f_X6_go v r ((v 8) &&& (((1 : Int32) <<< (y3 &&& 31)) ^^^ (-1)))).bind (fun y13 => f_X6_run_30 k1 a2 a3 n30 (x4 + 1) y13.1 y13.2) else f_X6_run_30 k1 a2 a3 n30 (x4 + 1) (upd v 11 x4) r) else (if (bI (f_X7_has (v 8) y3)) = 0 then (f_X6_go v r ((v 8) ||| ((1 : Int32) <<< (y3 &&& 31)))).bind (fun y9 => f_X6_run_30 k1 a2 a3 n30 (x4 + 1) y9.1 y9.2) else f_X6_run_30 k1 a2 a3 n30 (x4 + 1) (upd v 11 x4) r)))) else some ((v, r)))) := rfl
def f_X6_run (v : Nat → Int32) (r : Nat → Nat → Int32) (k1 : Nat) (a2 : Int32) (a3 : Int32) : Option ST := f_X6_run_30 k1 a2 a3 80 (0 : Int32) (upd (upd (upd (upd v 8 (v 5)) 9 0) 10 0) 11 (-9)) r
set_option maxHeartbeats 4000000 in
set_option maxRecDepth 100000 in
theorem c_X6_run (l : Launch) (D : va_G) (cy : Nat → ClassId) (A : Nat → Nat) (X : va_W) (A0 : Nat → Prop) (v : Nat → Int32) (r : Nat → Nat → Int32) (k1 : Nat) (hk1 : k1 < 4) (a2 : Int32) (a3 : Int32) (v2 : Nat → Int32) (r2 : Nat → Nat → Int32) (hres : f_X6_run v r k1 a2 a3 = some (v2, r2)) : Met l yX6_run wsX6_run rm_X6_run (va_Pc [.ref (A 11), .ref (A (19 + k1)), .int a2, .int a3] (GW D (tyC cy) (pcC cy A v r ++ X) A0)) (QW none (GW D (tyC cy) (pcC cy A v2 r2 ++ X) A0) A0) 0 0 A0 := by
  refine Met.ofW (cc := cX6_run) (maxL := 7) (ret := none) (by decide) rfl ?_
  intro p e s m args below meth c s₁ B hml hv
  obtain ⟨hargs, hP, hK, hD0, hN⟩ := hv
  have hx := B.exec
  have hb := B.bytes
  have hr := B.returns
  have hts := atoms_spec (ws := wsX6_run) B.pre
  have hown : s.vm.findClass RX6 = some m.cls := findClass_of_methodNamed B.named
  have hlocks := B.notSynchronized
  have hI : IW D (pcC cy A v r ++ X) A0 s.heap s.heap [] := ⟨hP, hD0, va_S.rf⟩
  have S : CallFix p m c cX6_run 7 s args wsX6_run RX6 := ⟨hx, hb, hml, hown, hts⟩
  have in1 : ∀ w ∈ wsX10, w ∈ wsX6_run := fun _ h => List.mem_cons_of_mem _ (List.mem_append_left _ (List.mem_append_left _ (List.mem_append_right _ h)))
  have in6 : ∀ w ∈ wsX60, w ∈ wsX6_run := fun _ h => List.mem_cons_of_mem _ (List.mem_append_left _ (List.mem_append_left _ (List.mem_append_left _ (List.mem_append_right _ h))))
  have hl := lv_entry ([.ref (A 11), .ref (A (19 + k1)), .int a2, .int a3]) (n := 7) (Nat.le_of_ble_eq_true rfl)
  have hE : entryFrame m args 7 = F0 m 0 ((lg_sl ([.ref (A 11), .ref (A (19 + k1)), .int a2, .int a3]) ++ List.replicate (7 - (lg_sl ([.ref (A 11), .ref (A (19 + k1)), .int a2, .int a3])).length) Slot.unset).toArray) [] := by rw [hargs]; exact lg_entry_eq m [.ref (A 11), .ref (A (19 + k1)), .int a2, .int a3] 7
  rw [hE]
  generalize (lg_sl ([.ref (A 11), .ref (A (19 + k1)), .int a2, .int a3]) ++ List.replicate (7 - (lg_sl ([.ref (A 11), .ref (A (19 + k1)), .int a2, .int a3])).length) Slot.unset).toArray = ls at hl ⊢
  have hl : lv_has ls 7 [(0, .ref (A 11)), (1, .ref (A (19 + k1))), (2, .int a2), (3, .int a3)] := hl
  unfold f_X6_run at hres
  refine lv_aload_n hx hb dX6_run_0 rfl (lv_at hl 0 rfl) ?_
  refine lv_aload_n hx hb dX6_run_1 rfl (lv_at hl 0 rfl) ?_
  refine gC_X6_house hx hb hts in6 hown hK hI (hts (.fieldLink RX6 9 "TrickHouse$Year" "house" "LTrickHouse$House;") (by decide +kernel)) dX6_run_2 ?_
  refine gC_X1_present hx hb hts in1 hown hK hI (hts (.fieldLink RX6 31 "TrickHouse$House" "present" "I") (by decide +kernel)) dX6_run_5 ?_
  refine pC_X6_present hx hb hts in6 hown hK hI (hts (.fieldLink RX6 35 "TrickHouse$Year" "present" "I") (by decide +kernel)) dX6_run_8 (fun H locs hI => ?_)
  refine lv_aload_n hx hb dX6_run_11 rfl (lv_at hl 0 rfl) ?_
  refine lv_iconst (v := 0) hx hb dX6_run_12 (by decide) ?_
  refine pC_X6_away hx hb hts in6 hown hK hI (hts (.fieldLink RX6 36 "TrickHouse$Year" "away" "I") (by decide +kernel)) dX6_run_13 (fun H locs hI => ?_)
  refine lv_aload_n hx hb dX6_run_16 rfl (lv_at hl 0 rfl) ?_
  refine lv_iconst (v := 0) hx hb dX6_run_17 (by decide) ?_
  refine pC_X6_greatest hx hb hts in6 hown hK hI (hts (.fieldLink RX6 39 "TrickHouse$Year" "greatest" "I") (by decide +kernel)) dX6_run_18 (fun H locs hI => ?_)
  refine lv_aload_n hx hb dX6_run_21 rfl (lv_at hl 0 rfl) ?_
  refine lv_bipush (v := (-9)) hx hb dX6_run_22 (by decide) ?_
  refine pC_X6_wrong hx hb hts in6 hown hK hI (hts (.fieldLink RX6 42 "TrickHouse$Year" "wrong" "I") (by decide +kernel)) dX6_run_24 (fun H locs hI => ?_)
  refine lv_iconst (v := 0) hx hb dX6_run_27 (by decide) ?_
  refine lv_istore (lv' := [(4, .int 0), (0, .ref (A 11)), (1, .ref (A (19 + k1))), (2, .int a2), (3, .int a3)]) hx hb dX6_run_28 hl (by decide) rfl (fun ls hl => ?_)
  have w30 : ∀ (n30 : Nat) (x4 : Int32) (v : (Nat → Int32)) (r : (Nat → Nat → Int32)), ∀ (H : Heap) (locs : List Loc), IW D (pcC cy A v r ++ X) A0 s.heap H locs → f_X6_run_30 k1 a2 a3 n30 x4 v r = some (v2, r2) → ∀ ls : Array Slot, lv_has ls 7 [(4, .int x4), (0, .ref (A 11)), (1, .ref (A (19 + k1))), (2, .int a2), (3, .int a3)] → W p l e (headSpec wsX6_run rm_X6_run).room s m args below meth c H locs 0 0 (MQ below (QW none (GW D (tyC cy) (pcC cy A v2 r2 ++ X) A0) A0) args s 0 0 A0) (F0 m 30 ls []) := by
    intro n30
    induction n30 with
    | zero =>
      intro x4 v r H locs hI hres
      have hres : (none : Option ST) = some (v2, r2) := hres
      cases hres
    | succ n30 ih30 =>
      intro x4 v r H locs hI hres ls hl
      replace hres := (f_X6_run_30_s k1 a2 a3 n30 x4 v r).symm.trans hres
      refine lv_iload hx hb dX6_run_30 (lv_at hl 0 rfl) ?_
      refine lv_iload_n hx hb dX6_run_32 rfl (lv_at hl 4 rfl) ?_
      refine lv_icmp_ge (tgt := 141) hx hb dX6_run_33 (by decide) (fun c1 => ?_) (fun c1 => ?_)
      · replace hres := (if_pos c1).symm.trans hres
        obtain ⟨rfl, rfl⟩ := pr2 hres
        exact W.vret hx hb hr (fun t ht hW => ⟨rfl, ⟨by rw [ht]; exact hI.1, va_K.moved hW.alike hK, hI.2.1, NW.warm hW hN⟩, hI.2.2.F ht⟩) hI.2.2.2.2 dX6_run_141
      · replace hres := (if_neg c1).symm.trans hres
        refine lv_aload_n hx hb dX6_run_36 rfl (lv_at hl 1 rfl) ?_
        refine gC_X6_wrong hx hb hts in6 hown hK hI (hts (.fieldLink RX6 42 "TrickHouse$Year" "wrong" "I") (by decide +kernel)) dX6_run_37 ?_
        refine lv_bipush (v := (-9)) hx hb dX6_run_40 (by decide) ?_
        refine lv_icmp_ne (tgt := 141) hx hb dX6_run_42 (by decide) (fun c2 => ?_) (fun c2 => ?_)
        · replace hres := (if_neg c2).symm.trans hres
          obtain ⟨rfl, rfl⟩ := pr2 hres
          exact W.vret hx hb hr (fun t ht hW => ⟨rfl, ⟨by rw [ht]; exact hI.1, va_K.moved hW.alike hK, hI.2.1, NW.warm hW hN⟩, hI.2.2.F ht⟩) hI.2.2.2.2 dX6_run_141
        · replace hres := (if_pos c2).symm.trans hres
          refine lv_aload_n hx hb dX6_run_45 rfl (lv_at hl 2 rfl) ?_
          refine lv_iload_n hx hb dX6_run_46 rfl (lv_at hl 3 rfl) ?_
          refine lv_iconst (v := 2) hx hb dX6_run_47 (by decide) ?_
          refine lv_iload hx hb dX6_run_48 (lv_at hl 0 rfl) ?_
          refine lv_imul hx hb dX6_run_50 ?_
          refine lv_iadd hx hb dX6_run_51 ?_
          obtain ⟨y3, e3, hres⟩ := bd hres
          refine ro_v S (c_X4_at l D cy A X A0 v r k1 hk1 (a2 + (2 * x4)) y3 e3) (cwV 1 hts gX6_run_X4_at rfl rfl rfl (by decide +kernel) ⟨Nat.le_of_ble_eq_true rfl, Nat.le_of_ble_eq_true rfl⟩) hI hK hN (ci := 4) rfl (atC_sh hk1) rfl rfl hl.1 rfl (Nat.le_of_ble_eq_true rfl) dX6_run_52 ⟨Nat.zero_le _, Nat.zero_le _⟩ ?_
          refine lv_istore (lv' := [(5, .int y3), (4, .int x4), (0, .ref (A 11)), (1, .ref (A (19 + k1))), (2, .int a2), (3, .int a3)]) hx hb dX6_run_55 hl (by decide) rfl (fun ls hl => ?_)
          refine lv_aload_n hx hb dX6_run_57 rfl (lv_at hl 3 rfl) ?_
          refine lv_iload_n hx hb dX6_run_58 rfl (lv_at hl 4 rfl) ?_
          refine lv_iconst (v := 2) hx hb dX6_run_59 (by decide) ?_
          refine lv_iload hx hb dX6_run_60 (lv_at hl 1 rfl) ?_
          refine lv_imul hx hb dX6_run_62 ?_
          refine lv_iadd hx hb dX6_run_63 ?_
          refine lv_iconst (v := 1) hx hb dX6_run_64 (by decide) ?_
          refine lv_iadd hx hb dX6_run_65 ?_
          obtain ⟨y4, e4, hres⟩ := bd hres
          refine ro_v S (c_X4_at l D cy A X A0 v r k1 hk1 ((a2 + (2 * x4)) + 1) y4 e4) (cwV 1 hts gX6_run_X4_at rfl rfl rfl (by decide +kernel) ⟨Nat.le_of_ble_eq_true rfl, Nat.le_of_ble_eq_true rfl⟩) hI hK hN (ci := 4) rfl (atC_sh hk1) rfl rfl hl.1 rfl (Nat.le_of_ble_eq_true rfl) dX6_run_66 ⟨Nat.zero_le _, Nat.zero_le _⟩ ?_
          refine lv_iconst (v := 1) hx hb dX6_run_69 (by decide) ?_
          refine lv_icmp_ne (tgt := 77) hx hb dX6_run_70 (by decide) (fun c5 => ?_) (fun c5 => ?_)
          · replace hres := (if_neg c5).symm.trans hres
            refine lv_iconst (v := 0) hx hb dX6_run_77 (by decide) ?_
            refine lv_istore (lv' := [(6, .int 0), (5, .int y3), (4, .int x4), (0, .ref (A 11)), (1, .ref (A (19 + k1))), (2, .int a2), (3, .int a3)]) hx hb dX6_run_78 hl (by decide) rfl (fun ls hl => ?_)
            refine lv_aload_n hx hb dX6_run_80 rfl (lv_at hl 3 rfl) ?_
            refine gC_X6_present hx hb hts in6 hown hK hI (hts (.fieldLink RX6 35 "TrickHouse$Year" "present" "I") (by decide +kernel)) dX6_run_81 ?_
            refine lv_iload hx hb dX6_run_84 (lv_at hl 1 rfl) ?_
            refine pu_n S (c_X7_has l (v 8) y3 _ rfl) ⟨va_cnB 2 hts gX6_run_X7_has_n45 rfl rfl rfl hN.2.2.2.2.2.1 (hts (.initialized RX7) (by decide +kernel)) (by decide +kernel) ⟨Nat.le_of_ble_eq_true rfl, Nat.le_of_ble_eq_true rfl⟩, hts (.static yX7_has) (by decide +kernel), trivial⟩ hN rfl hl.1 rfl (Nat.le_of_ble_eq_true rfl) dX6_run_86 ⟨Nat.zero_le _, Nat.zero_le _⟩ ?_
            refine lv_iload hx hb dX6_run_89 (lv_at hl 0 rfl) ?_
            refine lv_icmp_ne (tgt := 129) hx hb dX6_run_91 (by decide) (fun c7 => ?_) (fun c7 => ?_)
            · replace hres := (if_neg c7).symm.trans hres
              refine lv_aload_n hx hb dX6_run_129 rfl (lv_at hl 3 rfl) ?_
              refine lv_iload hx hb dX6_run_130 (lv_at hl 2 rfl) ?_
              refine pC_X6_wrong hx hb hts in6 hown hK hI (hts (.fieldLink RX6 42 "TrickHouse$Year" "wrong" "I") (by decide +kernel)) dX6_run_132 (fun H locs hI => ?_)
              refine lv_iinc (v := (x4 + 1)) (lv' := [(4, .int (x4 + 1)), (6, .int 0), (5, .int y3), (0, .ref (A 11)), (1, .ref (A (19 + k1))), (2, .int a2), (3, .int a3)]) hx hb dX6_run_135 hl (k := 2) rfl rfl (by decide) rfl (fun ls hl => ?_)
              refine lv_goto (tgt := 30) hx hb dX6_run_138 (by decide) ?_
              exact ih30 (x4 + 1) (upd v 11 x4) r _ _ hI hres ls (lv_sub hl [0, 3, 4, 5, 6] rfl)
            · replace hres := (if_pos c7).symm.trans hres
              refine lv_aload_n hx hb dX6_run_94 rfl (lv_at hl 3 rfl) ?_
              refine lv_iload hx hb dX6_run_95 (lv_at hl 0 rfl) ?_
              refine lv_if_eq (tgt := 114) hx hb dX6_run_97 (by decide) (fun c8 => ?_) (fun c8 => absurd (by decide) c8)
              refine lv_aload_n hx hb dX6_run_114 rfl (lv_at hl 3 rfl) ?_
              refine gC_X6_present hx hb hts in6 hown hK hI (hts (.fieldLink RX6 35 "TrickHouse$Year" "present" "I") (by decide +kernel)) dX6_run_115 ?_
              refine lv_iconst (v := 1) hx hb dX6_run_118 (by decide) ?_
              refine lv_iload hx hb dX6_run_119 (lv_at hl 1 rfl) ?_
              refine lv_ishl hx hb dX6_run_121 ?_
              refine lv_ior hx hb dX6_run_122 ?_
              obtain ⟨y9, e9, hres⟩ := bd hres
              refine rw_v S (c_X6_go l D cy A X A0 v r ((v 8) ||| ((1 : Int32) <<< (y3 &&& 31))) y9.1 y9.2 e9) (cwV 1 hts gX6_run_X6_go rfl rfl rfl (by decide +kernel) ⟨Nat.le_of_ble_eq_true rfl, Nat.le_of_ble_eq_true rfl⟩) hI hK hN (ci := 5) rfl (atC_11) rfl rfl hl.1 rfl (Nat.le_of_ble_eq_true rfl) dX6_run_123 ⟨Nat.zero_le _, Nat.zero_le _⟩ (fun H locs hI => ?_)
              refine lv_goto (tgt := 135) hx hb dX6_run_126 (by decide) ?_
              refine lv_iinc (v := (x4 + 1)) (lv' := [(4, .int (x4 + 1)), (6, .int 0), (5, .int y3), (0, .ref (A 11)), (1, .ref (A (19 + k1))), (2, .int a2), (3, .int a3)]) hx hb dX6_run_135 hl (k := 2) rfl rfl (by decide) rfl (fun ls hl => ?_)
              refine lv_goto (tgt := 30) hx hb dX6_run_138 (by decide) ?_
              exact ih30 (x4 + 1) y9.1 y9.2 _ _ hI hres ls (lv_sub hl [0, 3, 4, 5, 6] rfl)
          · replace hres := (if_pos c5).symm.trans hres
            refine lv_iconst (v := 1) hx hb dX6_run_73 (by decide) ?_
            refine lv_goto (tgt := 78) hx hb dX6_run_74 (by decide) ?_
            refine lv_istore (lv' := [(6, .int 1), (5, .int y3), (4, .int x4), (0, .ref (A 11)), (1, .ref (A (19 + k1))), (2, .int a2), (3, .int a3)]) hx hb dX6_run_78 hl (by decide) rfl (fun ls hl => ?_)
            refine lv_aload_n hx hb dX6_run_80 rfl (lv_at hl 3 rfl) ?_
            refine gC_X6_present hx hb hts in6 hown hK hI (hts (.fieldLink RX6 35 "TrickHouse$Year" "present" "I") (by decide +kernel)) dX6_run_81 ?_
            refine lv_iload hx hb dX6_run_84 (lv_at hl 1 rfl) ?_
            refine pu_n S (c_X7_has l (v 8) y3 _ rfl) ⟨va_cnB 2 hts gX6_run_X7_has_n45 rfl rfl rfl hN.2.2.2.2.2.1 (hts (.initialized RX7) (by decide +kernel)) (by decide +kernel) ⟨Nat.le_of_ble_eq_true rfl, Nat.le_of_ble_eq_true rfl⟩, hts (.static yX7_has) (by decide +kernel), trivial⟩ hN rfl hl.1 rfl (Nat.le_of_ble_eq_true rfl) dX6_run_86 ⟨Nat.zero_le _, Nat.zero_le _⟩ ?_
            refine lv_iload hx hb dX6_run_89 (lv_at hl 0 rfl) ?_
            refine lv_icmp_ne (tgt := 129) hx hb dX6_run_91 (by decide) (fun c11 => ?_) (fun c11 => ?_)
            · replace hres := (if_neg c11).symm.trans hres
              refine lv_aload_n hx hb dX6_run_129 rfl (lv_at hl 3 rfl) ?_
              refine lv_iload hx hb dX6_run_130 (lv_at hl 2 rfl) ?_
              refine pC_X6_wrong hx hb hts in6 hown hK hI (hts (.fieldLink RX6 42 "TrickHouse$Year" "wrong" "I") (by decide +kernel)) dX6_run_132 (fun H locs hI => ?_)
              refine lv_iinc (v := (x4 + 1)) (lv' := [(4, .int (x4 + 1)), (6, .int 1), (5, .int y3), (0, .ref (A 11)), (1, .ref (A (19 + k1))), (2, .int a2), (3, .int a3)]) hx hb dX6_run_135 hl (k := 2) rfl rfl (by decide) rfl (fun ls hl => ?_)
              refine lv_goto (tgt := 30) hx hb dX6_run_138 (by decide) ?_
              exact ih30 (x4 + 1) (upd v 11 x4) r _ _ hI hres ls (lv_sub hl [0, 3, 4, 5, 6] rfl)
            · replace hres := (if_pos c11).symm.trans hres
              refine lv_aload_n hx hb dX6_run_94 rfl (lv_at hl 3 rfl) ?_
              refine lv_iload hx hb dX6_run_95 (lv_at hl 0 rfl) ?_
              refine lv_if_eq (tgt := 114) hx hb dX6_run_97 (by decide) (fun c12 => absurd c12 (by decide)) (fun c12 => ?_)
              refine lv_aload_n hx hb dX6_run_100 rfl (lv_at hl 3 rfl) ?_
              refine gC_X6_present hx hb hts in6 hown hK hI (hts (.fieldLink RX6 35 "TrickHouse$Year" "present" "I") (by decide +kernel)) dX6_run_101 ?_
              refine lv_iconst (v := 1) hx hb dX6_run_104 (by decide) ?_
              refine lv_iload hx hb dX6_run_105 (lv_at hl 1 rfl) ?_
              refine lv_ishl hx hb dX6_run_107 ?_
              refine lv_iconst (v := (-1)) hx hb dX6_run_108 (by decide) ?_
              refine lv_ixor hx hb dX6_run_109 ?_
              refine lv_iand hx hb dX6_run_110 ?_
              refine lv_goto (tgt := 123) hx hb dX6_run_111 (by decide) ?_
              obtain ⟨y13, e13, hres⟩ := bd hres
              refine rw_v S (c_X6_go l D cy A X A0 v r ((v 8) &&& (((1 : Int32) <<< (y3 &&& 31)) ^^^ (-1))) y13.1 y13.2 e13) (cwV 1 hts gX6_run_X6_go rfl rfl rfl (by decide +kernel) ⟨Nat.le_of_ble_eq_true rfl, Nat.le_of_ble_eq_true rfl⟩) hI hK hN (ci := 5) rfl (atC_11) rfl rfl hl.1 rfl (Nat.le_of_ble_eq_true rfl) dX6_run_123 ⟨Nat.zero_le _, Nat.zero_le _⟩ (fun H locs hI => ?_)
              refine lv_goto (tgt := 135) hx hb dX6_run_126 (by decide) ?_
              refine lv_iinc (v := (x4 + 1)) (lv' := [(4, .int (x4 + 1)), (6, .int 1), (5, .int y3), (0, .ref (A 11)), (1, .ref (A (19 + k1))), (2, .int a2), (3, .int a3)]) hx hb dX6_run_135 hl (k := 2) rfl rfl (by decide) rfl (fun ls hl => ?_)
              refine lv_goto (tgt := 30) hx hb dX6_run_138 (by decide) ?_
              exact ih30 (x4 + 1) y13.1 y13.2 _ _ hI hres ls (lv_sub hl [0, 3, 4, 5, 6] rfl)
  exact w30 80 (0 : Int32) (upd (upd (upd (upd v 8 (v 5)) 9 0) 10 0) 11 (-9)) r _ _ hI hres ls (lv_sub hl [0, 1, 2, 3, 4] rfl)
abbrev rm_X6_answer : Room := { frames := 3, cells := 0, slots := 0, locals := 64 }
def f_X6_answer (v : Nat → Int32) (r : Nat → Nat → Int32) (a1 : Int32) : Option Int32 := (if a1 = 1 then some ((v 11)) else (if (v 11) = (-9) then (if a1 = 0 then some ((f_J6_bitCount_0f7a4 (v 8))) else (if a1 = 1 then some ((v 10)) else (if a1 = 2 then some ((v 8)) else (if a1 = 3 then some ((v 9)) else (if a1 = 4 then (f_X1_laughOf v r (v 8)).bind (fun y9 => some (y9)) else some ((v 10))))))) else some (((-100) - (v 11)))))
set_option maxHeartbeats 4000000 in
set_option maxRecDepth 100000 in
theorem c_X6_answer (l : Launch) (D : va_G) (cy : Nat → ClassId) (A : Nat → Nat) (X : va_W) (A0 : Nat → Prop) (v : Nat → Int32) (r : Nat → Nat → Int32) (a1 : Int32) (res : Int32) (hres : f_X6_answer v r a1 = some res) : Met l yX6_answer wsX6_answer rm_X6_answer (va_Pc [.ref (A 11), .int a1] (GW D (tyC cy) (pcC cy A v r ++ X) A0)) (QR (.int res)) 0 0 (fun _ => False) := by
  refine Met.ofW (cc := cX6_answer) (maxL := 2) (ret := (some .int)) (by decide) rfl ?_
  intro p e s m args below meth c s₁ B hml hv
  obtain ⟨hargs, hP, hK, hD0, hN⟩ := hv
  have hx := B.exec
  have hb := B.bytes
  have hr := B.returns
  have hts := atoms_spec (ws := wsX6_answer) B.pre
  have hown : s.vm.findClass RX6 = some m.cls := findClass_of_methodNamed B.named
  have hlocks := B.notSynchronized
  have hI : IW D (pcC cy A v r ++ X) A0 s.heap s.heap [] := ⟨hP, hD0, va_S.rf⟩
  have S : CallFix p m c cX6_answer 2 s args wsX6_answer RX6 := ⟨hx, hb, hml, hown, hts⟩
  have in6 : ∀ w ∈ wsX60, w ∈ wsX6_answer := fun _ h => List.mem_cons_of_mem _ (List.mem_append_left _ (List.mem_append_left _ (List.mem_append_right _ h)))
  have hl := lv_entry ([.ref (A 11), .int a1]) (n := 2) (Nat.le_of_ble_eq_true rfl)
  have hE : entryFrame m args 2 = F0 m 0 ((lg_sl ([.ref (A 11), .int a1]) ++ List.replicate (2 - (lg_sl ([.ref (A 11), .int a1])).length) Slot.unset).toArray) [] := by rw [hargs]; exact lg_entry_eq m [.ref (A 11), .int a1] 2
  rw [hE]
  generalize (lg_sl ([.ref (A 11), .int a1]) ++ List.replicate (2 - (lg_sl ([.ref (A 11), .int a1])).length) Slot.unset).toArray = ls at hl ⊢
  have hl : lv_has ls 2 [(0, .ref (A 11)), (1, .int a1)] := hl
  unfold f_X6_answer at hres
  refine lv_iload_n hx hb dX6_answer_0 rfl (lv_at hl 1 rfl) ?_
  refine lv_iconst (v := 1) hx hb dX6_answer_1 (by decide) ?_
  refine lv_icmp_ne (tgt := 10) hx hb dX6_answer_2 (by decide) (fun c1 => ?_) (fun c1 => ?_)
  · replace hres := (if_neg c1).symm.trans hres
    refine lv_aload_n hx hb dX6_answer_10 rfl (lv_at hl 0 rfl) ?_
    refine gC_X6_wrong hx hb hts in6 hown hK hI (hts (.fieldLink RX6 42 "TrickHouse$Year" "wrong" "I") (by decide +kernel)) dX6_answer_11 ?_
    refine lv_bipush (v := (-9)) hx hb dX6_answer_14 (by decide) ?_
    refine lv_icmp_eq (tgt := 27) hx hb dX6_answer_16 (by decide) (fun c2 => ?_) (fun c2 => ?_)
    · replace hres := (if_pos c2).symm.trans hres
      refine lv_iload_n hx hb dX6_answer_27 rfl (lv_at hl 1 rfl) ?_
      by_cases c3 : a1 = 0
      · replace hres := (if_pos c3).symm.trans hres
        refine lv_tableIn (off := 36) (tgt := 64) hx hb dX6_answer_28 (by rw [c3]; decide) (by rw [c3]; decide) (by rw [c3]; decide) (by decide) ?_
        refine lv_aload_n hx hb dX6_answer_64 rfl (lv_at hl 0 rfl) ?_
        refine gC_X6_present hx hb hts in6 hown hK hI (hts (.fieldLink RX6 35 "TrickHouse$Year" "present" "I") (by decide +kernel)) dX6_answer_65 ?_
        refine pu_s S (c_J6_bitCount_0f7a4 l (v 8) _ rfl) (va_cwS 1 hts gX6_answer_J6_bitCount_0f7a4 rfl rfl rfl (by decide +kernel) ⟨Nat.le_of_ble_eq_true rfl, Nat.le_of_ble_eq_true rfl⟩) hN rfl hl.1 rfl (Nat.le_of_ble_eq_true rfl) dX6_answer_68 ⟨Nat.zero_le _, Nat.zero_le _⟩ ?_
        obtain rfl := Option.some.inj hres
        exact W.iret hx hb hr (fun t ht hW => ⟨rfl, ht⟩) (fun _ h => absurd h List.not_mem_nil) dX6_answer_71
      · replace hres := (if_neg c3).symm.trans hres
        by_cases c5 : a1 = 1
        · replace hres := (if_pos c5).symm.trans hres
          refine lv_tableIn (off := 66) (tgt := 94) hx hb dX6_answer_28 (by rw [c5]; decide) (by rw [c5]; decide) (by rw [c5]; decide) (by decide) ?_
          refine lv_aload_n hx hb dX6_answer_94 rfl (lv_at hl 0 rfl) ?_
          refine gC_X6_greatest hx hb hts in6 hown hK hI (hts (.fieldLink RX6 39 "TrickHouse$Year" "greatest" "I") (by decide +kernel)) dX6_answer_95 ?_
          obtain rfl := Option.some.inj hres
          exact W.iret hx hb hr (fun t ht hW => ⟨rfl, ht⟩) (fun _ h => absurd h List.not_mem_nil) dX6_answer_98
        · replace hres := (if_neg c5).symm.trans hres
          by_cases c6 : a1 = 2
          · replace hres := (if_pos c6).symm.trans hres
            refine lv_tableIn (off := 44) (tgt := 72) hx hb dX6_answer_28 (by rw [c6]; decide) (by rw [c6]; decide) (by rw [c6]; decide) (by decide) ?_
            refine lv_aload_n hx hb dX6_answer_72 rfl (lv_at hl 0 rfl) ?_
            refine gC_X6_present hx hb hts in6 hown hK hI (hts (.fieldLink RX6 35 "TrickHouse$Year" "present" "I") (by decide +kernel)) dX6_answer_73 ?_
            obtain rfl := Option.some.inj hres
            exact W.iret hx hb hr (fun t ht hW => ⟨rfl, ht⟩) (fun _ h => absurd h List.not_mem_nil) dX6_answer_76
          · replace hres := (if_neg c6).symm.trans hres
            by_cases c7 : a1 = 3
            · replace hres := (if_pos c7).symm.trans hres
              refine lv_tableIn (off := 49) (tgt := 77) hx hb dX6_answer_28 (by rw [c7]; decide) (by rw [c7]; decide) (by rw [c7]; decide) (by decide) ?_
              refine lv_aload_n hx hb dX6_answer_77 rfl (lv_at hl 0 rfl) ?_
              refine gC_X6_away hx hb hts in6 hown hK hI (hts (.fieldLink RX6 36 "TrickHouse$Year" "away" "I") (by decide +kernel)) dX6_answer_78 ?_
              obtain rfl := Option.some.inj hres
              exact W.iret hx hb hr (fun t ht hW => ⟨rfl, ht⟩) (fun _ h => absurd h List.not_mem_nil) dX6_answer_81
            · replace hres := (if_neg c7).symm.trans hres
              by_cases c8 : a1 = 4
              · replace hres := (if_pos c8).symm.trans hres
                refine lv_tableIn (off := 54) (tgt := 82) hx hb dX6_answer_28 (by rw [c8]; decide) (by rw [c8]; decide) (by rw [c8]; decide) (by decide) ?_
                refine lv_aload_n hx hb dX6_answer_82 rfl (lv_at hl 0 rfl) ?_
                refine gC_X6_house hx hb hts in6 hown hK hI (hts (.fieldLink RX6 9 "TrickHouse$Year" "house" "LTrickHouse$House;") (by decide +kernel)) dX6_answer_83 ?_
                refine lv_aload_n hx hb dX6_answer_86 rfl (lv_at hl 0 rfl) ?_
                refine gC_X6_present hx hb hts in6 hown hK hI (hts (.fieldLink RX6 35 "TrickHouse$Year" "present" "I") (by decide +kernel)) dX6_answer_87 ?_
                obtain ⟨y9, e9, hres⟩ := bd hres
                refine ro_v S (c_X1_laughOf l D cy A X A0 v r (v 8) y9 e9) (cwV 1 hts gX6_answer_X1_laughOf rfl rfl rfl (by decide +kernel) ⟨Nat.le_of_ble_eq_true rfl, Nat.le_of_ble_eq_true rfl⟩) hI hK hN (ci := 1) rfl (atC_1) rfl rfl hl.1 rfl (Nat.le_of_ble_eq_true rfl) dX6_answer_90 ⟨Nat.zero_le _, Nat.zero_le _⟩ ?_
                obtain rfl := Option.some.inj hres
                exact W.iret hx hb hr (fun t ht hW => ⟨rfl, ht⟩) (fun _ h => absurd h List.not_mem_nil) dX6_answer_93
              · replace hres := (if_neg c8).symm.trans hres
                have e3 := lv_neT c3 (show (0 : Int32).toInt = 0 from rfl)
                have e5 := lv_neT c5 (show (1 : Int32).toInt = 1 from rfl)
                have e6 := lv_neT c6 (show (2 : Int32).toInt = 2 from rfl)
                have e7 := lv_neT c7 (show (3 : Int32).toInt = 3 from rfl)
                have e8 := lv_neT c8 (show (4 : Int32).toInt = 4 from rfl)
                refine lv_tableOut (tgt := 94) hx hb dX6_answer_28 (by omega) (by decide) ?_
                refine lv_aload_n hx hb dX6_answer_94 rfl (lv_at hl 0 rfl) ?_
                refine gC_X6_greatest hx hb hts in6 hown hK hI (hts (.fieldLink RX6 39 "TrickHouse$Year" "greatest" "I") (by decide +kernel)) dX6_answer_95 ?_
                obtain rfl := Option.some.inj hres
                exact W.iret hx hb hr (fun t ht hW => ⟨rfl, ht⟩) (fun _ h => absurd h List.not_mem_nil) dX6_answer_98
    · replace hres := (if_neg c2).symm.trans hres
      refine lv_bipush (v := (-100)) hx hb dX6_answer_19 (by decide) ?_
      refine lv_aload_n hx hb dX6_answer_21 rfl (lv_at hl 0 rfl) ?_
      refine gC_X6_wrong hx hb hts in6 hown hK hI (hts (.fieldLink RX6 42 "TrickHouse$Year" "wrong" "I") (by decide +kernel)) dX6_answer_22 ?_
      refine lv_isub hx hb dX6_answer_25 ?_
      obtain rfl := Option.some.inj hres
      exact W.iret hx hb hr (fun t ht hW => ⟨rfl, ht⟩) (fun _ h => absurd h List.not_mem_nil) dX6_answer_26
  · replace hres := (if_pos c1).symm.trans hres
    refine lv_aload_n hx hb dX6_answer_5 rfl (lv_at hl 0 rfl) ?_
    refine gC_X6_wrong hx hb hts in6 hown hK hI (hts (.fieldLink RX6 42 "TrickHouse$Year" "wrong" "I") (by decide +kernel)) dX6_answer_6 ?_
    obtain rfl := Option.some.inj hres
    exact W.iret hx hb hr (fun t ht hW => ⟨rfl, ht⟩) (fun _ h => absurd h List.not_mem_nil) dX6_answer_9
abbrev rm_X2_countWay : Room := { frames := 0, cells := 0, slots := 0, locals := 0 }
def f_X2_countWay_9  : Nat → Int32 → (Nat → Int32) → (Nat → Nat → Int32) → Option ST
  | 0, _, _, _ => none
  | n9 + 1, x1, v, r => (if 6 ≤ x1 then some (((upd v 7 ((v 7) + 1)), r)) else if inR x1 6 = true then if inR x1 6 = true then f_X2_countWay_9  n9 (x1 + 1) v (va_up r 9 (upd (r 9) x1.toNatClampNeg (r 8 x1.toNatClampNeg))) else none else none)
theorem f_X2_countWay_9_s  (n9 : Nat) (x1 : Int32) (v : (Nat → Int32)) (r : (Nat → Nat → Int32)) : f_X2_countWay_9  (n9 + 1) x1 v r = (if 6 ≤ x1 then some (((upd v 7 ((v 7) + 1)), r)) else if inR x1 6 = true then if inR x1 6 = true then f_X2_countWay_9  n9 (x1 + 1) v (va_up r 9 (upd (r 9) x1.toNatClampNeg (r 8 x1.toNatClampNeg))) else none else none) := rfl
def f_X2_countWay (v : Nat → Int32) (r : Nat → Nat → Int32) : Option ST := (if (v 7) = 0 then f_X2_countWay_9  80 (0 : Int32) v r else some (((upd v 7 ((v 7) + 1)), r)))
set_option maxHeartbeats 4000000 in
set_option maxRecDepth 100000 in
theorem c_X2_countWay (l : Launch) (D : va_G) (cy : Nat → ClassId) (A : Nat → Nat) (X : va_W) (A0 : Nat → Prop) (v : Nat → Int32) (r : Nat → Nat → Int32) (v2 : Nat → Int32) (r2 : Nat → Nat → Int32) (hres : f_X2_countWay v r = some (v2, r2)) : Met l yX2_countWay wsX2_countWay rm_X2_countWay (va_Pc [.ref (A 7)] (GW D (tyC cy) (pcC cy A v r ++ X) A0)) (QW none (GW D (tyC cy) (pcC cy A v2 r2 ++ X) A0) A0) 0 0 A0 := by
  refine Met.ofW (cc := cX2_countWay) (maxL := 2) (ret := none) (by decide) rfl ?_
  intro p e s m args below meth c s₁ B hml hv
  obtain ⟨hargs, hP, hK, hD0, hN⟩ := hv
  have hx := B.exec
  have hb := B.bytes
  have hr := B.returns
  have hts := atoms_spec (ws := wsX2_countWay) B.pre
  have hown : s.vm.findClass RX2 = some m.cls := findClass_of_methodNamed B.named
  have hlocks := B.notSynchronized
  have hI : IW D (pcC cy A v r ++ X) A0 s.heap s.heap [] := ⟨hP, hD0, va_S.rf⟩
  have in2 : ∀ w ∈ wsX20, w ∈ wsX2_countWay := fun _ h => List.mem_cons_of_mem _ (List.mem_append_right _ h)
  have hl := lv_entry ([.ref (A 7)]) (n := 2) (Nat.le_of_ble_eq_true rfl)
  have hE : entryFrame m args 2 = F0 m 0 ((lg_sl ([.ref (A 7)]) ++ List.replicate (2 - (lg_sl ([.ref (A 7)])).length) Slot.unset).toArray) [] := by rw [hargs]; exact lg_entry_eq m [.ref (A 7)] 2
  rw [hE]
  generalize (lg_sl ([.ref (A 7)]) ++ List.replicate (2 - (lg_sl ([.ref (A 7)])).length) Slot.unset).toArray = ls at hl ⊢
  have hl : lv_has ls 2 [(0, .ref (A 7))] := hl
  unfold f_X2_countWay at hres
  refine lv_aload_n hx hb dX2_countWay_0 rfl (lv_at hl 0 rfl) ?_
  refine gC_X2_ways hx hb hts in2 hown hK hI (hts (.fieldLink RX2 25 "TrickHouse$Packing" "ways" "I") (by decide +kernel)) dX2_countWay_1 ?_
  refine lv_if_ne (tgt := 33) hx hb dX2_countWay_4 (by decide) (fun c1 => ?_) (fun c1 => ?_)
  · replace hres := (if_neg c1).symm.trans hres
    refine lv_aload_n hx hb dX2_countWay_33 rfl (lv_at hl 0 rfl) ?_
    refine lv_dup hx hb dX2_countWay_34 rfl ?_
    refine gC_X2_ways hx hb hts in2 hown hK hI (hts (.fieldLink RX2 25 "TrickHouse$Packing" "ways" "I") (by decide +kernel)) dX2_countWay_35 ?_
    refine lv_iconst (v := 1) hx hb dX2_countWay_38 (by decide) ?_
    refine lv_iadd hx hb dX2_countWay_39 ?_
    refine pC_X2_ways hx hb hts in2 hown hK hI (hts (.fieldLink RX2 25 "TrickHouse$Packing" "ways" "I") (by decide +kernel)) dX2_countWay_40 (fun H locs hI => ?_)
    obtain ⟨rfl, rfl⟩ := pr2 hres
    exact W.vret hx hb hr (fun t ht hW => ⟨rfl, ⟨by rw [ht]; exact hI.1, va_K.moved hW.alike hK, hI.2.1, NW.warm hW hN⟩, hI.2.2.F ht⟩) hI.2.2.2.2 dX2_countWay_43
  · replace hres := (if_pos c1).symm.trans hres
    refine lv_iconst (v := 0) hx hb dX2_countWay_7 (by decide) ?_
    refine lv_istore_n (lv' := [(1, .int 0), (0, .ref (A 7))]) hx hb dX2_countWay_8 rfl hl (by decide) rfl (fun ls hl => ?_)
    have w9 : ∀ (n9 : Nat) (x1 : Int32) (v : (Nat → Int32)) (r : (Nat → Nat → Int32)), ∀ (H : Heap) (locs : List Loc), IW D (pcC cy A v r ++ X) A0 s.heap H locs → f_X2_countWay_9  n9 x1 v r = some (v2, r2) → ∀ ls : Array Slot, lv_has ls 2 [(1, .int x1), (0, .ref (A 7))] → W p l e (headSpec wsX2_countWay rm_X2_countWay).room s m args below meth c H locs 0 0 (MQ below (QW none (GW D (tyC cy) (pcC cy A v2 r2 ++ X) A0) A0) args s 0 0 A0) (F0 m 9 ls []) := by
      intro n9
      induction n9 with
      | zero =>
        intro x1 v r H locs hI hres
        have hres : (none : Option ST) = some (v2, r2) := hres
        cases hres
      | succ n9 ih9 =>
        intro x1 v r H locs hI hres ls hl
        replace hres := (f_X2_countWay_9_s  n9 x1 v r).symm.trans hres
        refine lv_iload_n hx hb dX2_countWay_9 rfl (lv_at hl 0 rfl) ?_
        refine lv_bipush (v := 6) hx hb dX2_countWay_10 (by decide) ?_
        refine lv_icmp_ge (tgt := 33) hx hb dX2_countWay_12 (by decide) (fun c2 => ?_) (fun c2 => ?_)
        · replace hres := (if_pos c2).symm.trans hres
          refine lv_aload_n hx hb dX2_countWay_33 rfl (lv_at hl 1 rfl) ?_
          refine lv_dup hx hb dX2_countWay_34 rfl ?_
          refine gC_X2_ways hx hb hts in2 hown hK hI (hts (.fieldLink RX2 25 "TrickHouse$Packing" "ways" "I") (by decide +kernel)) dX2_countWay_35 ?_
          refine lv_iconst (v := 1) hx hb dX2_countWay_38 (by decide) ?_
          refine lv_iadd hx hb dX2_countWay_39 ?_
          refine pC_X2_ways hx hb hts in2 hown hK hI (hts (.fieldLink RX2 25 "TrickHouse$Packing" "ways" "I") (by decide +kernel)) dX2_countWay_40 (fun H locs hI => ?_)
          obtain ⟨rfl, rfl⟩ := pr2 hres
          exact W.vret hx hb hr (fun t ht hW => ⟨rfl, ⟨by rw [ht]; exact hI.1, va_K.moved hW.alike hK, hI.2.1, NW.warm hW hN⟩, hI.2.2.F ht⟩) hI.2.2.2.2 dX2_countWay_43
        · replace hres := (if_neg c2).symm.trans hres
          refine lv_aload_n hx hb dX2_countWay_15 rfl (lv_at hl 1 rfl) ?_
          refine gC_X2_first hx hb hts in2 hown hK hI (hts (.fieldLink RX2 22 "TrickHouse$Packing" "first" "[I") (by decide +kernel)) dX2_countWay_16 ?_
          refine lv_iload_n hx hb dX2_countWay_19 rfl (lv_at hl 0 rfl) ?_
          refine lv_aload_n hx hb dX2_countWay_20 rfl (lv_at hl 1 rfl) ?_
          refine gC_X2_tried hx hb hts in2 hown hK hI (hts (.fieldLink RX2 19 "TrickHouse$Packing" "tried" "[I") (by decide +kernel)) dX2_countWay_21 ?_
          refine lv_iload_n hx hb dX2_countWay_24 rfl (lv_at hl 0 rfl) ?_
          obtain ⟨g3, hres⟩ := gd hres
          refine th_ild hx hb hK hI 9 0 rfl rfl g3 dX2_countWay_25 ?_
          obtain ⟨g4, hres⟩ := gd hres
          refine th_ist hx hb hK hI 10 0 rfl rfl g4 stC_r9 dX2_countWay_26 (fun H locs hI => ?_)
          refine lv_iinc (v := (x1 + 1)) (lv' := [(1, .int (x1 + 1)), (0, .ref (A 7))]) hx hb dX2_countWay_27 hl (k := 0) rfl rfl (by decide) rfl (fun ls hl => ?_)
          refine lv_goto (tgt := 9) hx hb dX2_countWay_30 (by decide) ?_
          exact ih9 (x1 + 1) v (va_up r 9 (upd (r 9) x1.toNatClampNeg (r 8 x1.toNatClampNeg))) _ _ hI hres ls (lv_sub hl [0, 1] rfl)
    exact w9 80 (0 : Int32) v r _ _ hI hres ls (lv_sub hl [0, 1] rfl)
abbrev rm_X2_placeFrom (nr : Nat) : Room := { frames := nr + 2, cells := 0, slots := 0, locals := 24 * nr + 60 }
def f_X2_placeFrom_49 (PP : (Nat → Int32) → (Nat → Nat → Int32) → Int32 → Int32 → Option ST) (a1 : Int32) (a2 : Int32) : Nat → Int32 → Int32 → (Nat → Int32) → (Nat → Nat → Int32) → Option ST
  | 0, _, _, _, _ => none
  | n49 + 1, x3, x4, v, r => (if (v 3) ≤ x4 then some ((v, r)) else if inR x4 4 = true then if inR x4 4 = true then (if (r 4 x4.toNatClampNeg) < ((r 7 x4.toNatClampNeg) + x3) then f_X2_placeFrom_49 PP a1 a2 n49 x3 (x4 + 1) v r else if inR x4 4 = true then if inR x4 4 = true then if inR a1 6 = true then (PP v (va_up (va_up r 7 (upd (r 7) x4.toNatClampNeg ((r 7 x4.toNatClampNeg) + x3))) 8 (upd ((va_up r 7 (upd (r 7) x4.toNatClampNeg ((r 7 x4.toNatClampNeg) + x3))) 8) a1.toNatClampNeg x4)) (a1 + 1) a2).bind (fun y13 => if inR x4 4 = true then if inR x4 4 = true then f_X2_placeFrom_49 PP a1 a2 n49 x3 (x4 + 1) y13.1 (va_up y13.2 7 (upd (y13.2 7) x4.toNatClampNeg ((y13.2 7 x4.toNatClampNeg) - x3))) else none else none) else none else none else none) else none else none)
theorem f_X2_placeFrom_49_s (PP : (Nat → Int32) → (Nat → Nat → Int32) → Int32 → Int32 → Option ST) (a1 : Int32) (a2 : Int32) (n49 : Nat) (x3 : Int32) (x4 : Int32) (v : (Nat → Int32)) (r : (Nat → Nat → Int32)) : f_X2_placeFrom_49 PP a1 a2 (n49 + 1) x3 x4 v r = (if (v 3) ≤ x4 then some ((v, r)) else if inR x4 4 = true then if inR x4 4 = true then (if (r 4 x4.toNatClampNeg) < ((r 7 x4.toNatClampNeg) + x3) then f_X2_placeFrom_49 PP a1 a2 n49 x3 (x4 + 1) v r else if inR x4 4 = true then if inR x4 4 = true then if inR a1 6 = true then (PP v (va_up (va_up r 7 (upd (r 7) x4.toNatClampNeg ((r 7 x4.toNatClampNeg) + x3))) 8 (upd ((va_up r 7 (upd (r 7) x4.toNatClampNeg ((r 7 x4.toNatClampNeg) + x3))) 8) a1.toNatClampNeg x4)) (a1 + 1) a2).bind (fun y13 => if inR x4 4 = true then if inR x4 4 = true then f_X2_placeFrom_49 PP a1 a2 n49 x3 (x4 + 1) y13.1 (va_up y13.2 7 (upd (y13.2 7) x4.toNatClampNeg ((y13.2 7 x4.toNatClampNeg) - x3))) else none else none) else none else none else none) else none else none) := rfl
def f_X2_placeFrom : Nat → (Nat → Int32) → (Nat → Nat → Int32) → Int32 → Int32 → Option ST
  | 0, _, _, _, _ => none
  | nr + 1, v, r, a1, a2 => (if (f_X1_isArticle v r a1) = true then (if (f_X7_has a2 a1) = true then if inR a1 6 = true then f_X2_placeFrom_49 (f_X2_placeFrom nr) a1 a2 80 (r 1 a1.toNatClampNeg) (0 : Int32) v r else none else (f_X2_placeFrom nr v r (a1 + 1) a2).bind (fun y16 => some ((y16.1, y16.2)))) else (f_X2_countWay v r).bind (fun y17 => some ((y17.1, y17.2))))
theorem f_X2_placeFrom_s (nr : Nat) (v : Nat → Int32) (r : Nat → Nat → Int32) (a1 a2 : Int32) : f_X2_placeFrom (nr + 1) v r a1 a2 = (if (f_X1_isArticle v r a1) = true then (if (f_X7_has a2 a1) = true then if inR a1 6 = true then f_X2_placeFrom_49 (f_X2_placeFrom nr) a1 a2 80 (r 1 a1.toNatClampNeg) (0 : Int32) v r else none else (f_X2_placeFrom nr v r (a1 + 1) a2).bind (fun y16 => some ((y16.1, y16.2)))) else (f_X2_countWay v r).bind (fun y17 => some ((y17.1, y17.2)))) := rfl
set_option maxHeartbeats 4000000 in
set_option maxRecDepth 100000 in
theorem c_X2_placeFrom (l : Launch) (D : va_G) (cy : Nat → ClassId) (A : Nat → Nat) (X : va_W) (A0 : Nat → Prop) : ∀ (nr : Nat) (v : Nat → Int32) (r : Nat → Nat → Int32) (a1 a2 : Int32) (v2 : Nat → Int32) (r2 : Nat → Nat → Int32) (hres : f_X2_placeFrom nr v r a1 a2 = some (v2, r2)), Met l yX2_placeFrom wsX2_placeFrom (rm_X2_placeFrom nr) (va_Pc [.ref (A 7), .int a1, .int a2] (GW D (tyC cy) (pcC cy A v r ++ X) A0)) (QW none (GW D (tyC cy) (pcC cy A v2 r2 ++ X) A0) A0) 0 0 A0 := by
  intro nr
  induction nr with
  | zero =>
    intro v r a1 a2 v2 r2 hres
    have hres : (none : Option ST) = some (v2, r2) := hres
    cases hres
  | succ nr ihr =>
    intro v r a1 a2 v2 r2 hres
    refine Met.ofW (cc := cX2_placeFrom) (maxL := 5) (ret := none) (by decide) rfl ?_
    intro p e s m args below meth c s₁ B hml hv
    obtain ⟨hargs, hP, hK, hD0, hN⟩ := hv
    have hx := B.exec
    have hb := B.bytes
    have hr := B.returns
    have hts := atoms_spec (ws := wsX2_placeFrom) B.pre
    have hown : s.vm.findClass RX2 = some m.cls := findClass_of_methodNamed B.named
    have hlocks := B.notSynchronized
    have hI : IW D (pcC cy A v r ++ X) A0 s.heap s.heap [] := ⟨hP, hD0, va_S.rf⟩
    have S : CallFix p m c cX2_placeFrom 5 s args wsX2_placeFrom RX2 := ⟨hx, hb, hml, hown, hts⟩
    have in0 : ∀ w ∈ wsX00, w ∈ wsX2_placeFrom := fun _ h => List.mem_cons_of_mem _ (List.mem_append_right _ h)
    have in1 : ∀ w ∈ wsX10, w ∈ wsX2_placeFrom := fun _ h => List.mem_cons_of_mem _ (List.mem_append_left _ (List.mem_append_right _ h))
    have in2 : ∀ w ∈ wsX20, w ∈ wsX2_placeFrom := fun _ h => List.mem_cons_of_mem _ (List.mem_append_left _ (List.mem_append_left _ (List.mem_append_right _ h)))
    have hl := lv_entry ([.ref (A 7), .int a1, .int a2]) (n := 5) (Nat.le_of_ble_eq_true rfl)
    have hE : entryFrame m args 5 = F0 m 0 ((lg_sl ([.ref (A 7), .int a1, .int a2]) ++ List.replicate (5 - (lg_sl ([.ref (A 7), .int a1, .int a2])).length) Slot.unset).toArray) [] := by rw [hargs]; exact lg_entry_eq m [.ref (A 7), .int a1, .int a2] 5
    rw [hE]
    generalize (lg_sl ([.ref (A 7), .int a1, .int a2]) ++ List.replicate (5 - (lg_sl ([.ref (A 7), .int a1, .int a2])).length) Slot.unset).toArray = ls at hl ⊢
    have hl : lv_has ls 5 [(0, .ref (A 7)), (1, .int a1), (2, .int a2)] := hl
    replace hres := (f_X2_placeFrom_s nr v r a1 a2).symm.trans hres
    refine lv_aload_n hx hb dX2_placeFrom_0 rfl (lv_at hl 0 rfl) ?_
    refine gC_X2_house hx hb hts in2 hown hK hI (hts (.fieldLink RX2 9 "TrickHouse$Packing" "house" "LTrickHouse$House;") (by decide +kernel)) dX2_placeFrom_1 ?_
    refine lv_iload_n hx hb dX2_placeFrom_4 rfl (lv_at hl 1 rfl) ?_
    refine ro_v S (c_X1_isArticle l D cy A X A0 v r a1 _ rfl) (cwV 1 hts gX2_placeFrom_X1_isArticle rfl rfl rfl (by decide +kernel) ⟨by show 0 + 1 ≤ (nr + 1) + 2; omega, by show 8 + (2 + 11) + 0 ≤ 24 * (nr + 1) + 60; omega⟩) hI hK hN (ci := 1) rfl (atC_1) rfl rfl hl.1 rfl (Nat.le_of_ble_eq_true rfl) dX2_placeFrom_5 ⟨Nat.zero_le _, Nat.zero_le _⟩ ?_
    refine lv_if_ne (tgt := 16) hx hb dX2_placeFrom_8 (by decide) (fun c2 => ?_) (fun c2 => ?_)
    · replace hres := (if_pos (bI_t c2)).symm.trans hres
      refine lv_iload_n hx hb dX2_placeFrom_16 rfl (lv_at hl 2 rfl) ?_
      refine lv_iload_n hx hb dX2_placeFrom_17 rfl (lv_at hl 1 rfl) ?_
      refine pu_n S (c_X7_has l a2 a1 _ rfl) ⟨va_cnB 2 hts gX2_placeFrom_X7_has_n42 rfl rfl rfl hN.2.1 (hts (.initialized RX7) (by decide +kernel)) (by decide +kernel) ⟨by show 0 + 1 ≤ (nr + 1) + 2; omega, by show 8 + (2 + 11) + 0 ≤ 24 * (nr + 1) + 60; omega⟩, hts (.static yX7_has) (by decide +kernel), trivial⟩ hN rfl hl.1 rfl (Nat.le_of_ble_eq_true rfl) dX2_placeFrom_18 ⟨Nat.zero_le _, Nat.zero_le _⟩ ?_
      refine lv_if_ne (tgt := 33) hx hb dX2_placeFrom_21 (by decide) (fun c4 => ?_) (fun c4 => ?_)
      · replace hres := (if_pos (bI_t c4)).symm.trans hres
        refine lv_aload_n hx hb dX2_placeFrom_33 rfl (lv_at hl 0 rfl) ?_
        refine gC_X2_house hx hb hts in2 hown hK hI (hts (.fieldLink RX2 9 "TrickHouse$Packing" "house" "LTrickHouse$House;") (by decide +kernel)) dX2_placeFrom_34 ?_
        refine gC_X1_articles hx hb hts in1 hown hK hI (hts (.fieldLink RX2 46 "TrickHouse$House" "articles" "[LTrickHouse$Article;") (by decide +kernel)) dX2_placeFrom_37 ?_
        refine lv_iload_n hx hb dX2_placeFrom_40 rfl (lv_at hl 1 rfl) ?_
        obtain ⟨g5, hres⟩ := gd hres
        refine th_ald (f := fun k => A (13 + k)) hx hb hK hI 2 1 rfl rfl g5 dX2_placeFrom_41 ?_
        refine gC_X0_bulk (inR_lt g5) hx hb hts in0 hown hK hI (hts (.fieldLink RX2 50 "TrickHouse$Article" "bulk" "I") (by decide +kernel)) dX2_placeFrom_42 ?_
        refine lv_istore_n (lv' := [(3, .int (r 1 a1.toNatClampNeg)), (0, .ref (A 7)), (1, .int a1), (2, .int a2)]) hx hb dX2_placeFrom_45 rfl hl (by decide) rfl (fun ls hl => ?_)
        refine lv_iconst (v := 0) hx hb dX2_placeFrom_46 (by decide) ?_
        refine lv_istore (lv' := [(4, .int 0), (3, .int (r 1 a1.toNatClampNeg)), (0, .ref (A 7)), (1, .int a1), (2, .int a2)]) hx hb dX2_placeFrom_47 hl (by decide) rfl (fun ls hl => ?_)
        have w49 : ∀ (n49 : Nat) (x3 : Int32) (x4 : Int32) (v : (Nat → Int32)) (r : (Nat → Nat → Int32)), ∀ (H : Heap) (locs : List Loc), IW D (pcC cy A v r ++ X) A0 s.heap H locs → f_X2_placeFrom_49 (f_X2_placeFrom nr) a1 a2 n49 x3 x4 v r = some (v2, r2) → ∀ ls : Array Slot, lv_has ls 5 [(3, .int x3), (4, .int x4), (0, .ref (A 7)), (1, .int a1), (2, .int a2)] → W p l e (headSpec wsX2_placeFrom (rm_X2_placeFrom (nr + 1))).room s m args below meth c H locs 0 0 (MQ below (QW none (GW D (tyC cy) (pcC cy A v2 r2 ++ X) A0) A0) args s 0 0 A0) (F0 m 49 ls []) := by
          intro n49
          induction n49 with
          | zero =>
            intro x3 x4 v r H locs hI hres
            have hres : (none : Option ST) = some (v2, r2) := hres
            cases hres
          | succ n49 ih49 =>
            intro x3 x4 v r H locs hI hres ls hl
            replace hres := (f_X2_placeFrom_49_s (f_X2_placeFrom nr) a1 a2 n49 x3 x4 v r).symm.trans hres
            refine lv_iload hx hb dX2_placeFrom_49 (lv_at hl 1 rfl) ?_
            refine lv_aload_n hx hb dX2_placeFrom_51 rfl (lv_at hl 2 rfl) ?_
            refine gC_X2_house hx hb hts in2 hown hK hI (hts (.fieldLink RX2 9 "TrickHouse$Packing" "house" "LTrickHouse$House;") (by decide +kernel)) dX2_placeFrom_52 ?_
            refine gC_X1_roomCount hx hb hts in1 hown hK hI (hts (.fieldLink RX2 55 "TrickHouse$House" "roomCount" "I") (by decide +kernel)) dX2_placeFrom_55 ?_
            refine lv_icmp_ge (tgt := 127) hx hb dX2_placeFrom_58 (by decide) (fun c6 => ?_) (fun c6 => ?_)
            · replace hres := (if_pos c6).symm.trans hres
              obtain ⟨rfl, rfl⟩ := pr2 hres
              exact W.vret hx hb hr (fun t ht hW => ⟨rfl, ⟨by rw [ht]; exact hI.1, va_K.moved hW.alike hK, hI.2.1, NW.warm hW hN⟩, hI.2.2.F ht⟩) hI.2.2.2.2 dX2_placeFrom_127
            · replace hres := (if_neg c6).symm.trans hres
              refine lv_aload_n hx hb dX2_placeFrom_61 rfl (lv_at hl 2 rfl) ?_
              refine gC_X2_loads hx hb hts in2 hown hK hI (hts (.fieldLink RX2 15 "TrickHouse$Packing" "loads" "[I") (by decide +kernel)) dX2_placeFrom_62 ?_
              refine lv_iload hx hb dX2_placeFrom_65 (lv_at hl 1 rfl) ?_
              obtain ⟨g7, hres⟩ := gd hres
              refine th_ild hx hb hK hI 8 0 rfl rfl g7 dX2_placeFrom_67 ?_
              refine lv_iload_n hx hb dX2_placeFrom_68 rfl (lv_at hl 0 rfl) ?_
              refine lv_iadd hx hb dX2_placeFrom_69 ?_
              refine lv_aload_n hx hb dX2_placeFrom_70 rfl (lv_at hl 2 rfl) ?_
              refine gC_X2_house hx hb hts in2 hown hK hI (hts (.fieldLink RX2 9 "TrickHouse$Packing" "house" "LTrickHouse$House;") (by decide +kernel)) dX2_placeFrom_71 ?_
              refine gC_X1_spaces hx hb hts in1 hown hK hI (hts (.fieldLink RX2 58 "TrickHouse$House" "spaces" "[I") (by decide +kernel)) dX2_placeFrom_74 ?_
              refine lv_iload hx hb dX2_placeFrom_77 (lv_at hl 1 rfl) ?_
              obtain ⟨g8, hres⟩ := gd hres
              refine th_ild hx hb hK hI 3 0 rfl rfl g8 dX2_placeFrom_79 ?_
              refine lv_icmp_gt (tgt := 121) hx hb dX2_placeFrom_80 (by decide) (fun c9 => ?_) (fun c9 => ?_)
              · replace hres := (if_pos c9).symm.trans hres
                refine lv_iinc (v := (x4 + 1)) (lv' := [(4, .int (x4 + 1)), (3, .int x3), (0, .ref (A 7)), (1, .int a1), (2, .int a2)]) hx hb dX2_placeFrom_121 hl (k := 1) rfl rfl (by decide) rfl (fun ls hl => ?_)
                refine lv_goto (tgt := 49) hx hb dX2_placeFrom_124 (by decide) ?_
                exact ih49 x3 (x4 + 1) v r _ _ hI hres ls (lv_sub hl [1, 0, 2, 3, 4] rfl)
              · replace hres := (if_neg c9).symm.trans hres
                refine lv_aload_n hx hb dX2_placeFrom_83 rfl (lv_at hl 2 rfl) ?_
                refine gC_X2_loads hx hb hts in2 hown hK hI (hts (.fieldLink RX2 15 "TrickHouse$Packing" "loads" "[I") (by decide +kernel)) dX2_placeFrom_84 ?_
                refine lv_iload hx hb dX2_placeFrom_87 (lv_at hl 1 rfl) ?_
                refine lv_dup2_11 hx hb dX2_placeFrom_89 rfl rfl ?_
                obtain ⟨g10, hres⟩ := gd hres
                refine th_ild hx hb hK hI 8 0 rfl rfl g10 dX2_placeFrom_90 ?_
                refine lv_iload_n hx hb dX2_placeFrom_91 rfl (lv_at hl 0 rfl) ?_
                refine lv_iadd hx hb dX2_placeFrom_92 ?_
                obtain ⟨g11, hres⟩ := gd hres
                refine th_ist hx hb hK hI 8 0 rfl rfl g11 stC_r7 dX2_placeFrom_93 (fun H locs hI => ?_)
                refine lv_aload_n hx hb dX2_placeFrom_94 rfl (lv_at hl 2 rfl) ?_
                refine gC_X2_tried hx hb hts in2 hown hK hI (hts (.fieldLink RX2 19 "TrickHouse$Packing" "tried" "[I") (by decide +kernel)) dX2_placeFrom_95 ?_
                refine lv_iload_n hx hb dX2_placeFrom_98 rfl (lv_at hl 3 rfl) ?_
                refine lv_iload hx hb dX2_placeFrom_99 (lv_at hl 1 rfl) ?_
                obtain ⟨g12, hres⟩ := gd hres
                refine th_ist hx hb hK hI 9 0 rfl rfl g12 stC_r8 dX2_placeFrom_101 (fun H locs hI => ?_)
                refine lv_aload_n hx hb dX2_placeFrom_102 rfl (lv_at hl 2 rfl) ?_
                refine lv_iload_n hx hb dX2_placeFrom_103 rfl (lv_at hl 3 rfl) ?_
                refine lv_iconst (v := 1) hx hb dX2_placeFrom_104 (by decide) ?_
                refine lv_iadd hx hb dX2_placeFrom_105 ?_
                refine lv_iload_n hx hb dX2_placeFrom_106 rfl (lv_at hl 4 rfl) ?_
                obtain ⟨y13, e13, hres⟩ := bd hres
                refine rw_v S (ihr v (va_up (va_up r 7 (upd (r 7) x4.toNatClampNeg ((r 7 x4.toNatClampNeg) + x3))) 8 (upd ((va_up r 7 (upd (r 7) x4.toNatClampNeg ((r 7 x4.toNatClampNeg) + x3))) 8) a1.toNatClampNeg x4)) (a1 + 1) a2 y13.1 y13.2 e13) (cwV 2 hts gX2_placeFrom_X2_placeFrom rfl rfl rfl (by decide +kernel) ⟨by show (nr + 2) + 1 ≤ (nr + 1) + 2; omega, by show 8 + (5 + 11) + (24 * nr + 60) ≤ 24 * (nr + 1) + 60; omega⟩) hI hK hN (ci := 2) rfl (atC_7) rfl rfl hl.1 rfl (Nat.le_of_ble_eq_true rfl) dX2_placeFrom_107 ⟨Nat.zero_le _, Nat.zero_le _⟩ (fun H locs hI => ?_)
                refine lv_aload_n hx hb dX2_placeFrom_110 rfl (lv_at hl 2 rfl) ?_
                refine gC_X2_loads hx hb hts in2 hown hK hI (hts (.fieldLink RX2 15 "TrickHouse$Packing" "loads" "[I") (by decide +kernel)) dX2_placeFrom_111 ?_
                refine lv_iload hx hb dX2_placeFrom_114 (lv_at hl 1 rfl) ?_
                refine lv_dup2_11 hx hb dX2_placeFrom_116 rfl rfl ?_
                obtain ⟨g14, hres⟩ := gd hres
                refine th_ild hx hb hK hI 8 0 rfl rfl g14 dX2_placeFrom_117 ?_
                refine lv_iload_n hx hb dX2_placeFrom_118 rfl (lv_at hl 0 rfl) ?_
                refine lv_isub hx hb dX2_placeFrom_119 ?_
                obtain ⟨g15, hres⟩ := gd hres
                refine th_ist hx hb hK hI 8 0 rfl rfl g15 stC_r7 dX2_placeFrom_120 (fun H locs hI => ?_)
                refine lv_iinc (v := (x4 + 1)) (lv' := [(4, .int (x4 + 1)), (3, .int x3), (0, .ref (A 7)), (1, .int a1), (2, .int a2)]) hx hb dX2_placeFrom_121 hl (k := 1) rfl rfl (by decide) rfl (fun ls hl => ?_)
                refine lv_goto (tgt := 49) hx hb dX2_placeFrom_124 (by decide) ?_
                exact ih49 x3 (x4 + 1) y13.1 (va_up y13.2 7 (upd (y13.2 7) x4.toNatClampNeg ((y13.2 7 x4.toNatClampNeg) - x3))) _ _ hI hres ls (lv_sub hl [1, 0, 2, 3, 4] rfl)
        exact w49 80 (r 1 a1.toNatClampNeg) (0 : Int32) v r _ _ hI hres ls (lv_sub hl [1, 0, 2, 3, 4] rfl)
      · replace hres := (if_neg (bI_f c4)).symm.trans hres
        refine lv_aload_n hx hb dX2_placeFrom_24 rfl (lv_at hl 0 rfl) ?_
        refine lv_iload_n hx hb dX2_placeFrom_25 rfl (lv_at hl 1 rfl) ?_
        refine lv_iconst (v := 1) hx hb dX2_placeFrom_26 (by decide) ?_
        refine lv_iadd hx hb dX2_placeFrom_27 ?_
        refine lv_iload_n hx hb dX2_placeFrom_28 rfl (lv_at hl 2 rfl) ?_
        obtain ⟨y16, e16, hres⟩ := bd hres
        refine rw_v S (ihr v r (a1 + 1) a2 y16.1 y16.2 e16) (cwV 2 hts gX2_placeFrom_X2_placeFrom rfl rfl rfl (by decide +kernel) ⟨by show (nr + 2) + 1 ≤ (nr + 1) + 2; omega, by show 8 + (5 + 11) + (24 * nr + 60) ≤ 24 * (nr + 1) + 60; omega⟩) hI hK hN (ci := 2) rfl (atC_7) rfl rfl hl.1 rfl (Nat.le_of_ble_eq_true rfl) dX2_placeFrom_29 ⟨Nat.zero_le _, Nat.zero_le _⟩ (fun H locs hI => ?_)
        obtain ⟨rfl, rfl⟩ := pr2 hres
        exact W.vret hx hb hr (fun t ht hW => ⟨rfl, ⟨by rw [ht]; exact hI.1, va_K.moved hW.alike hK, hI.2.1, NW.warm hW hN⟩, hI.2.2.F ht⟩) hI.2.2.2.2 dX2_placeFrom_32
    · replace hres := (if_neg (bI_f c2)).symm.trans hres
      refine lv_aload_n hx hb dX2_placeFrom_11 rfl (lv_at hl 0 rfl) ?_
      obtain ⟨y17, e17, hres⟩ := bd hres
      refine rw_v S (c_X2_countWay l D cy A X A0 v r y17.1 y17.2 e17) (cwV 0 hts gX2_placeFrom_X2_countWay rfl rfl rfl (by decide +kernel) ⟨by show 0 + 1 ≤ (nr + 1) + 2; omega, by show 8 + (2 + 11) + 0 ≤ 24 * (nr + 1) + 60; omega⟩) hI hK hN (ci := 2) rfl (atC_7) rfl rfl hl.1 rfl (Nat.le_of_ble_eq_true rfl) dX2_placeFrom_12 ⟨Nat.zero_le _, Nat.zero_le _⟩ (fun H locs hI => ?_)
      obtain ⟨rfl, rfl⟩ := pr2 hres
      exact W.vret hx hb hr (fun t ht hW => ⟨rfl, ⟨by rw [ht]; exact hI.1, va_K.moved hW.alike hK, hI.2.1, NW.warm hW hN⟩, hI.2.2.F ht⟩) hI.2.2.2.2 dX2_placeFrom_15
abbrev rm_X2_pack : Room := { frames := 11, cells := 0, slots := 0, locals := 276 }
def f_X2_pack_27 (a1 : Int32) : Nat → Int32 → (Nat → Int32) → (Nat → Nat → Int32) → Option ST
  | 0, _, _, _ => none
  | n27 + 1, x2, v, r => (if 6 ≤ x2 then (f_X2_placeFrom 8 v r (0 : Int32) a1).bind (fun y3 => some ((y3.1, y3.2))) else if inR x2 6 = true then if inR x2 6 = true then f_X2_pack_27 a1 n27 (x2 + 1) v (va_up (va_up r 8 (upd (r 8) x2.toNatClampNeg (-9))) 9 (upd ((va_up r 8 (upd (r 8) x2.toNatClampNeg (-9))) 9) x2.toNatClampNeg (-9))) else none else none)
theorem f_X2_pack_27_s (a1 : Int32) (n27 : Nat) (x2 : Int32) (v : (Nat → Int32)) (r : (Nat → Nat → Int32)) : f_X2_pack_27 a1 (n27 + 1) x2 v r = (if 6 ≤ x2 then (f_X2_placeFrom 8 v r (0 : Int32) a1).bind (fun y3 => some ((y3.1, y3.2))) else if inR x2 6 = true then if inR x2 6 = true then f_X2_pack_27 a1 n27 (x2 + 1) v (va_up (va_up r 8 (upd (r 8) x2.toNatClampNeg (-9))) 9 (upd ((va_up r 8 (upd (r 8) x2.toNatClampNeg (-9))) 9) x2.toNatClampNeg (-9))) else none else none) := rfl
def f_X2_pack_7 (a1 : Int32) : Nat → Int32 → (Nat → Int32) → (Nat → Nat → Int32) → Option ST
  | 0, _, _, _ => none
  | n7 + 1, x2, v, r => (if 4 ≤ x2 then f_X2_pack_27 a1 80 (0 : Int32) v r else if inR x2 4 = true then f_X2_pack_7 a1 n7 (x2 + 1) v (va_up r 7 (upd (r 7) x2.toNatClampNeg 0)) else none)
theorem f_X2_pack_7_s (a1 : Int32) (n7 : Nat) (x2 : Int32) (v : (Nat → Int32)) (r : (Nat → Nat → Int32)) : f_X2_pack_7 a1 (n7 + 1) x2 v r = (if 4 ≤ x2 then f_X2_pack_27 a1 80 (0 : Int32) v r else if inR x2 4 = true then f_X2_pack_7 a1 n7 (x2 + 1) v (va_up r 7 (upd (r 7) x2.toNatClampNeg 0)) else none) := rfl
def f_X2_pack (v : Nat → Int32) (r : Nat → Nat → Int32) (a1 : Int32) : Option ST := f_X2_pack_7 a1 80 (0 : Int32) (upd v 7 0) r
set_option maxHeartbeats 4000000 in
set_option maxRecDepth 100000 in
theorem c_X2_pack (l : Launch) (D : va_G) (cy : Nat → ClassId) (A : Nat → Nat) (X : va_W) (A0 : Nat → Prop) (v : Nat → Int32) (r : Nat → Nat → Int32) (a1 : Int32) (v2 : Nat → Int32) (r2 : Nat → Nat → Int32) (hres : f_X2_pack v r a1 = some (v2, r2)) : Met l yX2_pack wsX2_pack rm_X2_pack (va_Pc [.ref (A 7), .int a1] (GW D (tyC cy) (pcC cy A v r ++ X) A0)) (QW none (GW D (tyC cy) (pcC cy A v2 r2 ++ X) A0) A0) 0 0 A0 := by
  refine Met.ofW (cc := cX2_pack) (maxL := 3) (ret := none) (by decide) rfl ?_
  intro p e s m args below meth c s₁ B hml hv
  obtain ⟨hargs, hP, hK, hD0, hN⟩ := hv
  have hx := B.exec
  have hb := B.bytes
  have hr := B.returns
  have hts := atoms_spec (ws := wsX2_pack) B.pre
  have hown : s.vm.findClass RX2 = some m.cls := findClass_of_methodNamed B.named
  have hlocks := B.notSynchronized
  have hI : IW D (pcC cy A v r ++ X) A0 s.heap s.heap [] := ⟨hP, hD0, va_S.rf⟩
  have S : CallFix p m c cX2_pack 3 s args wsX2_pack RX2 := ⟨hx, hb, hml, hown, hts⟩
  have in2 : ∀ w ∈ wsX20, w ∈ wsX2_pack := fun _ h => List.mem_cons_of_mem _ (List.mem_append_left _ (List.mem_append_left _ (List.mem_append_right _ h)))
  have hl := lv_entry ([.ref (A 7), .int a1]) (n := 3) (Nat.le_of_ble_eq_true rfl)
  have hE : entryFrame m args 3 = F0 m 0 ((lg_sl ([.ref (A 7), .int a1]) ++ List.replicate (3 - (lg_sl ([.ref (A 7), .int a1])).length) Slot.unset).toArray) [] := by rw [hargs]; exact lg_entry_eq m [.ref (A 7), .int a1] 3
  rw [hE]
  generalize (lg_sl ([.ref (A 7), .int a1]) ++ List.replicate (3 - (lg_sl ([.ref (A 7), .int a1])).length) Slot.unset).toArray = ls at hl ⊢
  have hl : lv_has ls 3 [(0, .ref (A 7)), (1, .int a1)] := hl
  unfold f_X2_pack at hres
  refine lv_aload_n hx hb dX2_pack_0 rfl (lv_at hl 0 rfl) ?_
  refine lv_iconst (v := 0) hx hb dX2_pack_1 (by decide) ?_
  refine pC_X2_ways hx hb hts in2 hown hK hI (hts (.fieldLink RX2 25 "TrickHouse$Packing" "ways" "I") (by decide +kernel)) dX2_pack_2 (fun H locs hI => ?_)
  refine lv_iconst (v := 0) hx hb dX2_pack_5 (by decide) ?_
  refine lv_istore_n (lv' := [(2, .int 0), (0, .ref (A 7)), (1, .int a1)]) hx hb dX2_pack_6 rfl hl (by decide) rfl (fun ls hl => ?_)
  have w7 : ∀ (n7 : Nat) (x2 : Int32) (v : (Nat → Int32)) (r : (Nat → Nat → Int32)), ∀ (H : Heap) (locs : List Loc), IW D (pcC cy A v r ++ X) A0 s.heap H locs → f_X2_pack_7 a1 n7 x2 v r = some (v2, r2) → ∀ ls : Array Slot, lv_has ls 3 [(2, .int x2), (0, .ref (A 7)), (1, .int a1)] → W p l e (headSpec wsX2_pack rm_X2_pack).room s m args below meth c H locs 0 0 (MQ below (QW none (GW D (tyC cy) (pcC cy A v2 r2 ++ X) A0) A0) args s 0 0 A0) (F0 m 7 ls []) := by
    intro n7
    induction n7 with
    | zero =>
      intro x2 v r H locs hI hres
      have hres : (none : Option ST) = some (v2, r2) := hres
      cases hres
    | succ n7 ih7 =>
      intro x2 v r H locs hI hres ls hl
      replace hres := (f_X2_pack_7_s a1 n7 x2 v r).symm.trans hres
      refine lv_iload_n hx hb dX2_pack_7 rfl (lv_at hl 0 rfl) ?_
      refine lv_iconst (v := 4) hx hb dX2_pack_8 (by decide) ?_
      refine lv_icmp_ge (tgt := 25) hx hb dX2_pack_9 (by decide) (fun c1 => ?_) (fun c1 => ?_)
      · replace hres := (if_pos c1).symm.trans hres
        refine lv_iconst (v := 0) hx hb dX2_pack_25 (by decide) ?_
        refine lv_istore_n (lv' := [(2, .int 0), (0, .ref (A 7)), (1, .int a1)]) hx hb dX2_pack_26 rfl hl (by decide) rfl (fun ls hl => ?_)
        have w27 : ∀ (n27 : Nat) (x2 : Int32) (v : (Nat → Int32)) (r : (Nat → Nat → Int32)), ∀ (H : Heap) (locs : List Loc), IW D (pcC cy A v r ++ X) A0 s.heap H locs → f_X2_pack_27 a1 n27 x2 v r = some (v2, r2) → ∀ ls : Array Slot, lv_has ls 3 [(2, .int x2), (0, .ref (A 7)), (1, .int a1)] → W p l e (headSpec wsX2_pack rm_X2_pack).room s m args below meth c H locs 0 0 (MQ below (QW none (GW D (tyC cy) (pcC cy A v2 r2 ++ X) A0) A0) args s 0 0 A0) (F0 m 27 ls []) := by
          intro n27
          induction n27 with
          | zero =>
            intro x2 v r H locs hI hres
            have hres : (none : Option ST) = some (v2, r2) := hres
            cases hres
          | succ n27 ih27 =>
            intro x2 v r H locs hI hres ls hl
            replace hres := (f_X2_pack_27_s a1 n27 x2 v r).symm.trans hres
            refine lv_iload_n hx hb dX2_pack_27 rfl (lv_at hl 0 rfl) ?_
            refine lv_bipush (v := 6) hx hb dX2_pack_28 (by decide) ?_
            refine lv_icmp_ge (tgt := 55) hx hb dX2_pack_30 (by decide) (fun c2 => ?_) (fun c2 => ?_)
            · replace hres := (if_pos c2).symm.trans hres
              refine lv_aload_n hx hb dX2_pack_55 rfl (lv_at hl 1 rfl) ?_
              refine lv_iconst (v := 0) hx hb dX2_pack_56 (by decide) ?_
              refine lv_iload_n hx hb dX2_pack_57 rfl (lv_at hl 2 rfl) ?_
              obtain ⟨y3, e3, hres⟩ := bd hres
              refine rw_v S (c_X2_placeFrom l D cy A X A0 8 v r (0 : Int32) a1 y3.1 y3.2 e3) (cwV 2 hts gX2_pack_X2_placeFrom rfl rfl rfl (by decide +kernel) ⟨Nat.le_of_ble_eq_true rfl, Nat.le_of_ble_eq_true rfl⟩) hI hK hN (ci := 2) rfl (atC_7) rfl rfl hl.1 rfl (Nat.le_of_ble_eq_true rfl) dX2_pack_58 ⟨Nat.zero_le _, Nat.zero_le _⟩ (fun H locs hI => ?_)
              obtain ⟨rfl, rfl⟩ := pr2 hres
              exact W.vret hx hb hr (fun t ht hW => ⟨rfl, ⟨by rw [ht]; exact hI.1, va_K.moved hW.alike hK, hI.2.1, NW.warm hW hN⟩, hI.2.2.F ht⟩) hI.2.2.2.2 dX2_pack_61
            · replace hres := (if_neg c2).symm.trans hres
              refine lv_aload_n hx hb dX2_pack_33 rfl (lv_at hl 1 rfl) ?_
              refine gC_X2_tried hx hb hts in2 hown hK hI (hts (.fieldLink RX2 19 "TrickHouse$Packing" "tried" "[I") (by decide +kernel)) dX2_pack_34 ?_
              refine lv_iload_n hx hb dX2_pack_37 rfl (lv_at hl 0 rfl) ?_
              refine lv_bipush (v := (-9)) hx hb dX2_pack_38 (by decide) ?_
              obtain ⟨g4, hres⟩ := gd hres
              refine th_ist hx hb hK hI 9 0 rfl rfl g4 stC_r8 dX2_pack_40 (fun H locs hI => ?_)
              refine lv_aload_n hx hb dX2_pack_41 rfl (lv_at hl 1 rfl) ?_
              refine gC_X2_first hx hb hts in2 hown hK hI (hts (.fieldLink RX2 22 "TrickHouse$Packing" "first" "[I") (by decide +kernel)) dX2_pack_42 ?_
              refine lv_iload_n hx hb dX2_pack_45 rfl (lv_at hl 0 rfl) ?_
              refine lv_bipush (v := (-9)) hx hb dX2_pack_46 (by decide) ?_
              obtain ⟨g5, hres⟩ := gd hres
              refine th_ist hx hb hK hI 10 0 rfl rfl g5 stC_r9 dX2_pack_48 (fun H locs hI => ?_)
              refine lv_iinc (v := (x2 + 1)) (lv' := [(2, .int (x2 + 1)), (0, .ref (A 7)), (1, .int a1)]) hx hb dX2_pack_49 hl (k := 0) rfl rfl (by decide) rfl (fun ls hl => ?_)
              refine lv_goto (tgt := 27) hx hb dX2_pack_52 (by decide) ?_
              exact ih27 (x2 + 1) v (va_up (va_up r 8 (upd (r 8) x2.toNatClampNeg (-9))) 9 (upd ((va_up r 8 (upd (r 8) x2.toNatClampNeg (-9))) 9) x2.toNatClampNeg (-9))) _ _ hI hres ls (lv_sub hl [0, 1, 2] rfl)
        exact w27 80 (0 : Int32) v r _ _ hI hres ls (lv_sub hl [0, 1, 2] rfl)
      · replace hres := (if_neg c1).symm.trans hres
        refine lv_aload_n hx hb dX2_pack_12 rfl (lv_at hl 1 rfl) ?_
        refine gC_X2_loads hx hb hts in2 hown hK hI (hts (.fieldLink RX2 15 "TrickHouse$Packing" "loads" "[I") (by decide +kernel)) dX2_pack_13 ?_
        refine lv_iload_n hx hb dX2_pack_16 rfl (lv_at hl 0 rfl) ?_
        refine lv_iconst (v := 0) hx hb dX2_pack_17 (by decide) ?_
        obtain ⟨g6, hres⟩ := gd hres
        refine th_ist hx hb hK hI 8 0 rfl rfl g6 stC_r7 dX2_pack_18 (fun H locs hI => ?_)
        refine lv_iinc (v := (x2 + 1)) (lv' := [(2, .int (x2 + 1)), (0, .ref (A 7)), (1, .int a1)]) hx hb dX2_pack_19 hl (k := 0) rfl rfl (by decide) rfl (fun ls hl => ?_)
        refine lv_goto (tgt := 7) hx hb dX2_pack_22 (by decide) ?_
        exact ih7 (x2 + 1) v (va_up r 7 (upd (r 7) x2.toNatClampNeg 0)) _ _ hI hres ls (lv_sub hl [0, 1, 2] rfl)
  exact w7 80 (0 : Int32) (upd v 7 0) r _ _ hI hres ls (lv_sub hl [0, 1, 2] rfl)
