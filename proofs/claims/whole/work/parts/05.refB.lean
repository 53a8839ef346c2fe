abbrev rm_X8_goYear : Room := { frames := 4, cells := 0, slots := 0, locals := 91 }
def f_X8_goYear_12 (a1 : Int32) (a2 : Int32) : Nat → Int32 → (Nat → Int32) → (Nat → Nat → Int32) → Option (Int32 × ST)
  | 0, _, _, _ => none
  | n12 + 1, x3, v, r => (if a2 ≤ x3 then some ((-9), (v, r)) else if inR (a1 + (2 * x3)) 240 = true then if inR ((a1 + (2 * x3)) + 1) 240 = true then (if (r 2 ((a1 + (2 * x3)) + 1).toNatClampNeg) = 1 then (if (bI (f_X8_isOf (v 5) (r 2 (a1 + (2 * x3)).toNatClampNeg))) = 1 then (f_X8_comes v r ((v 5) &&& (((1 : Int32) <<< ((r 2 (a1 + (2 * x3)).toNatClampNeg) &&& 31)) ^^^ (-1)))).bind (fun y15 => (f_X8_size y15.1).bind (fun y16 => (f_X8_laughsOf (upd y15.2.1 10 ((v 10) + y16)) y15.2.2 ((upd y15.2.1 10 ((v 10) + y16)) 5)).bind (fun y17 => (if y17 ≤ ((upd y15.2.1 10 ((v 10) + y16)) 11) then f_X8_goYear_12 a1 a2 n12 (x3 + 1) (upd (upd y15.2.1 10 ((v 10) + y16)) 11 ((upd y15.2.1 10 ((v 10) + y16)) 11)) y15.2.2 else f_X8_goYear_12 a1 a2 n12 (x3 + 1) (upd (upd y15.2.1 10 ((v 10) + y16)) 11 y17) y15.2.2)))) else some (x3, (v, r))) else (if (bI (f_X8_isOf (v 5) (r 2 (a1 + (2 * x3)).toNatClampNeg))) = 0 then (f_X8_comes v r ((v 5) ||| ((1 : Int32) <<< ((r 2 (a1 + (2 * x3)).toNatClampNeg) &&& 31)))).bind (fun y8 => (f_X8_size y8.1).bind (fun y9 => (f_X8_laughsOf (upd y8.2.1 10 ((v 10) + y9)) y8.2.2 ((upd y8.2.1 10 ((v 10) + y9)) 5)).bind (fun y10 => (if y10 ≤ ((upd y8.2.1 10 ((v 10) + y9)) 11) then f_X8_goYear_12 a1 a2 n12 (x3 + 1) (upd (upd y8.2.1 10 ((v 10) + y9)) 11 ((upd y8.2.1 10 ((v 10) + y9)) 11)) y8.2.2 else f_X8_goYear_12 a1 a2 n12 (x3 + 1) (upd (upd y8.2.1 10 ((v 10) + y9)) 11 y10) y8.2.2)))) else some (x3, (v, r)))) else none else none)
theorem f_X8_goYear_12_s (a1 : Int32) (a2 : Int32) (n12 : Nat) (x3 : Int32) (v : (Nat → Int32)) (r : (Nat → Nat → Int32)) : f_X8_goYear_12 a1 a2 (n12 + 1) x3 v r = (if a2 ≤ x3 then some ((-9), (v, r)) else if inR (a1 + (2 * x3)) 240 = true then if inR ((a1 + (2 * x3)) + 1) 240 = true then (if (r 2 ((a1 + (2 * x3)) + 1).toNatClampNeg) = 1 then (if (bI (f_X8_isOf (v 5) (r 2 (a1 + (2 * x3)).toNatClampNeg))) = 1 then (f_X8_comes v r ((v 5) &&& (((1 : Int32) <<< ((r 2 (a1 + (2 * x3)).toNatClampNeg) &&& 31)) ^^^ (-1)))).bind (fun y15 => (f_X8_size y15.1).bind (fun y16 => (f_X8_laughsOf (upd y15.2.1 10 ((v 10) + y16)) y15.2.2 ((upd y15.2.1 10 ((v 10) + y16)) 5)).bind (fun y17 => (if y17 ≤ ((upd y15.2.1 10 ((v 10) + y16)) 11) then f_X8_goYear_12 a1 a2 n12 (x3 + 1) (upd (upd y15.2.1 10 ((v 10) + y16)) 11 ((upd y15.2.1 10 ((v 10) + y16)) 11)) y15.2.2 else f_X8_goYear_12 a1 a2 n12 (x3 + 1) (upd (upd y15.2.1 10 ((v 10) + y16)) 11 y17) y15.2.2)))) else some (x3, (v, r))) else (if (bI (f_X8_isOf (v 5) (r 2 (a1 + (2 * x3)).toNatClampNeg))) = 0 then (f_X8_comes v r ((v 5) ||| ((1 : Int32) <<< ((r 2 (a1 + (2 * x3)).toNatClampNeg) &&& 31)))).bind (fun y8 => (f_X8_size y8.1).bind (fun y9 => (f_X8_laughsOf (upd y8.2.1 10 ((v 10) + y9)) y8.2.2 ((upd y8.2.1 10 ((v 10) + y9)) 5)).bind (fun y10 => (if y10 ≤ ((upd y8.2.1 10 ((v 10) + y9)) 11) then f_X8_goYear_12 a1 a2 n12 (x3 + 1) (upd (upd y8.2.1 10 ((v 10) + y9)) 11 ((upd y8.2.1 10 ((v 10) + y9)) 11)) y8.2.2 else f_X8_goYear_12 a1 a2 n12 (x3 + 1) (upd (upd y8.2.1 10 ((v 10) + y9)) 11 y10) y8.2.2)))) else some (x3, (v, r)))) else none else none) := rfl
def f_X8_goYear (v : Nat → Int32) (r : Nat → Nat → Int32) (a1 : Int32) (a2 : Int32) : Option (Int32 × ST) := f_X8_goYear_12 a1 a2 80 (0 : Int32) (upd (upd v 10 0) 11 0) r
set_option maxHeartbeats 4000000 in
set_option maxRecDepth 100000 in
theorem c_X8_goYear (l : Launch) (D : va_G) (cy : Nat → ClassId) (A : Nat → Nat) (X : va_W) (A0 : Nat → Prop) (v : Nat → Int32) (r : Nat → Nat → Int32) (a1 : Int32) (a2 : Int32) (res : Int32) (v2 : Nat → Int32) (r2 : Nat → Nat → Int32) (hres : f_X8_goYear v r a1 a2 = some (res, (v2, r2))) : Met l yX8_goYear wsX8_goYear rm_X8_goYear (va_Pc [.ref (A 0), .int a1, .int a2] (GW D (tyM cy) (pcM cy A v r ++ X) A0)) (QW (some (.int res)) (GW D (tyM cy) (pcM cy A v2 r2 ++ X) A0) A0) 0 0 A0 := by
  refine Met.ofW (cc := cX8_goYear) (maxL := 7) (ret := (some .int)) (by decide) rfl ?_
  intro p e s m args below meth c s₁ B hml hv
  obtain ⟨hargs, hP, hK, hD0, hN⟩ := hv
  have hx := B.exec
  have hb := B.bytes
  have hr := B.returns
  have hts := atoms_spec (ws := wsX8_goYear) B.pre
  have hown : s.vm.findClass RX8 = some m.cls := findClass_of_methodNamed B.named
  have hlocks := B.notSynchronized
  have hI : IW D (pcM cy A v r ++ X) A0 s.heap s.heap [] := ⟨hP, hD0, va_S.rf⟩
  have S : CallFix p m c cX8_goYear 7 s args wsX8_goYear RX8 := ⟨hx, hb, hml, hown, hts⟩
  have in8 : ∀ w ∈ wsX80, w ∈ wsX8_goYear := fun _ h => List.mem_cons_of_mem _ (List.mem_append_right _ h)
  have hl := lv_entry ([.ref (A 0), .int a1, .int a2]) (n := 7) (Nat.le_of_ble_eq_true rfl)
  have hE : entryFrame m args 7 = F0 m 0 ((lg_sl ([.ref (A 0), .int a1, .int a2]) ++ List.replicate (7 - (lg_sl ([.ref (A 0), .int a1, .int a2])).length) Slot.unset).toArray) [] := by rw [hargs]; exact lg_entry_eq m [.ref (A 0), .int a1, .int a2] 7
  rw [hE]
  generalize (lg_sl ([.ref (A 0), .int a1, .int a2]) ++ List.replicate (7 - (lg_sl ([.ref (A 0), .int a1, .int a2])).length) Slot.unset).toArray = ls at hl ⊢
  have hl : lv_has ls 7 [(0, .ref (A 0)), (1, .int a1), (2, .int a2)] := hl
  unfold f_X8_goYear at hres
  refine lv_aload_n hx hb dX8_goYear_0 rfl (lv_at hl 0 rfl) ?_
  refine lv_iconst (v := 0) hx hb dX8_goYear_1 (by decide) ?_
  refine pM_away hx hb hts in8 hown hK hI (hts (.fieldLink RX8 170 "TrickHouseModel" "away" "I") (by decide +kernel)) dX8_goYear_2 (fun H locs hI => ?_)
  refine lv_aload_n hx hb dX8_goYear_5 rfl (lv_at hl 0 rfl) ?_
  refine lv_iconst (v := 0) hx hb dX8_goYear_6 (by decide) ?_
  refine pM_loudest hx hb hts in8 hown hK hI (hts (.fieldLink RX8 173 "TrickHouseModel" "loudest" "I") (by decide +kernel)) dX8_goYear_7 (fun H locs hI => ?_)
  refine lv_iconst (v := 0) hx hb dX8_goYear_10 (by decide) ?_
  refine lv_istore_n (lv' := [(3, .int 0), (0, .ref (A 0)), (1, .int a1), (2, .int a2)]) hx hb dX8_goYear_11 rfl hl (by decide) rfl (fun ls hl => ?_)
  have w12 : ∀ (n12 : Nat) (x3 : Int32) (v : (Nat → Int32)) (r : (Nat → Nat → Int32)), ∀ (H : Heap) (locs : List Loc), IW D (pcM cy A v r ++ X) A0 s.heap H locs → f_X8_goYear_12 a1 a2 n12 x3 v r = some (res, (v2, r2)) → ∀ ls : Array Slot, lv_has ls 7 [(3, .int x3), (0, .ref (A 0)), (1, .int a1), (2, .int a2)] → W p l e (headSpec wsX8_goYear rm_X8_goYear).room s m args below meth c H locs 0 0 (MQ below (QW (some (.int res)) (GW D (tyM cy) (pcM cy A v2 r2 ++ X) A0) A0) args s 0 0 A0) (F0 m 12 ls []) := by
    intro n12
    induction n12 with
    | zero =>
      intro x3 v r H locs hI hres
      have hres : (none : Option (Int32 × ST)) = some (res, (v2, r2)) := hres
      cases hres
    | succ n12 ih12 =>
      intro x3 v r H locs hI hres ls hl
      replace hres := (f_X8_goYear_12_s a1 a2 n12 x3 v r).symm.trans hres
      refine lv_iload_n hx hb dX8_goYear_12 rfl (lv_at hl 0 rfl) ?_
      refine lv_iload_n hx hb dX8_goYear_13 rfl (lv_at hl 3 rfl) ?_
      refine lv_icmp_ge (tgt := 150) hx hb dX8_goYear_14 (by decide) (fun c1 => ?_) (fun c1 => ?_)
      · replace hres := (if_pos c1).symm.trans hres
        refine lv_bipush (v := (-9)) hx hb dX8_goYear_150 (by decide) ?_
        obtain ⟨rfl, rfl, rfl⟩ := pr3 hres
        exact W.iret hx hb hr (fun t ht hW => ⟨rfl, ⟨by rw [ht]; exact hI.1, va_K.moved hW.alike hK, hI.2.1, NW.warm hW hN⟩, hI.2.2.F ht⟩) hI.2.2.2.2 dX8_goYear_152
      · replace hres := (if_neg c1).symm.trans hres
        refine lv_aload_n hx hb dX8_goYear_17 rfl (lv_at hl 1 rfl) ?_
        refine gM_cells hx hb hts in8 hown hK hI (hts (.fieldLink RX8 16 "TrickHouseModel" "cells" "[I") (by decide +kernel)) dX8_goYear_18 ?_
        refine lv_iload_n hx hb dX8_goYear_21 rfl (lv_at hl 2 rfl) ?_
        refine lv_iconst (v := 2) hx hb dX8_goYear_22 (by decide) ?_
        refine lv_iload_n hx hb dX8_goYear_23 rfl (lv_at hl 0 rfl) ?_
        refine lv_imul hx hb dX8_goYear_24 ?_
        refine lv_iadd hx hb dX8_goYear_25 ?_
        obtain ⟨g2, hres⟩ := gd hres
        refine th_ild hx hb hK hI 3 0 rfl rfl g2 dX8_goYear_26 ?_
        refine lv_istore (lv' := [(4, .int (r 2 (a1 + (2 * x3)).toNatClampNeg)), (3, .int x3), (0, .ref (A 0)), (1, .int a1), (2, .int a2)]) hx hb dX8_goYear_27 hl (by decide) rfl (fun ls hl => ?_)
        refine lv_aload_n hx hb dX8_goYear_29 rfl (lv_at hl 2 rfl) ?_
        refine gM_cells hx hb hts in8 hown hK hI (hts (.fieldLink RX8 16 "TrickHouseModel" "cells" "[I") (by decide +kernel)) dX8_goYear_30 ?_
        refine lv_iload_n hx hb dX8_goYear_33 rfl (lv_at hl 3 rfl) ?_
        refine lv_iconst (v := 2) hx hb dX8_goYear_34 (by decide) ?_
        refine lv_iload_n hx hb dX8_goYear_35 rfl (lv_at hl 1 rfl) ?_
        refine lv_imul hx hb dX8_goYear_36 ?_
        refine lv_iadd hx hb dX8_goYear_37 ?_
        refine lv_iconst (v := 1) hx hb dX8_goYear_38 (by decide) ?_
        refine lv_iadd hx hb dX8_goYear_39 ?_
        obtain ⟨g3, hres⟩ := gd hres
        refine th_ild hx hb hK hI 3 0 rfl rfl g3 dX8_goYear_40 ?_
        refine lv_iconst (v := 1) hx hb dX8_goYear_41 (by decide) ?_
        refine lv_icmp_ne (tgt := 49) hx hb dX8_goYear_42 (by decide) (fun c4 => ?_) (fun c4 => ?_)
        · replace hres := (if_neg c4).symm.trans hres
          refine lv_iconst (v := 0) hx hb dX8_goYear_49 (by decide) ?_
          refine lv_istore (lv' := [(5, .int 0), (4, .int (r 2 (a1 + (2 * x3)).toNatClampNeg)), (3, .int x3), (0, .ref (A 0)), (1, .int a1), (2, .int a2)]) hx hb dX8_goYear_50 hl (by decide) rfl (fun ls hl => ?_)
          refine lv_aload_n hx hb dX8_goYear_52 rfl (lv_at hl 3 rfl) ?_
          refine gM_thereNow hx hb hts in8 hown hK hI (hts (.fieldLink RX8 116 "TrickHouseModel" "thereNow" "I") (by decide +kernel)) dX8_goYear_53 ?_
          refine lv_iload hx hb dX8_goYear_56 (lv_at hl 1 rfl) ?_
          refine pu_s S (c_X8_isOf l (v 5) (r 2 (a1 + (2 * x3)).toNatClampNeg) _ rfl) (va_cwS 2 hts gX8_goYear_X8_isOf rfl rfl rfl (by decide +kernel) ⟨Nat.le_of_ble_eq_true rfl, Nat.le_of_ble_eq_true rfl⟩) hN rfl hl.1 rfl (Nat.le_of_ble_eq_true rfl) dX8_goYear_58 ⟨Nat.zero_le _, Nat.zero_le _⟩ ?_
          refine lv_iload hx hb dX8_goYear_61 (lv_at hl 0 rfl) ?_
          refine lv_icmp_eq (tgt := 68) hx hb dX8_goYear_63 (by decide) (fun c6 => ?_) (fun c6 => ?_)
          · replace hres := (if_pos c6).symm.trans hres
            refine lv_aload_n hx hb dX8_goYear_68 rfl (lv_at hl 3 rfl) ?_
            refine lv_dup hx hb dX8_goYear_69 rfl ?_
            refine gM_away hx hb hts in8 hown hK hI (hts (.fieldLink RX8 170 "TrickHouseModel" "away" "I") (by decide +kernel)) dX8_goYear_70 ?_
            refine lv_aload_n hx hb dX8_goYear_73 rfl (lv_at hl 3 rfl) ?_
            refine lv_iload hx hb dX8_goYear_74 (lv_at hl 0 rfl) ?_
            refine lv_if_eq (tgt := 93) hx hb dX8_goYear_76 (by decide) (fun c7 => ?_) (fun c7 => absurd (by decide) c7)
            refine lv_aload_n hx hb dX8_goYear_93 rfl (lv_at hl 3 rfl) ?_
            refine gM_thereNow hx hb hts in8 hown hK hI (hts (.fieldLink RX8 116 "TrickHouseModel" "thereNow" "I") (by decide +kernel)) dX8_goYear_94 ?_
            refine lv_iconst (v := 1) hx hb dX8_goYear_97 (by decide) ?_
            refine lv_iload hx hb dX8_goYear_98 (lv_at hl 1 rfl) ?_
            refine lv_ishl hx hb dX8_goYear_100 ?_
            refine lv_ior hx hb dX8_goYear_101 ?_
            obtain ⟨y8, e8, hres⟩ := bd hres
            refine rw_v S (c_X8_comes l D cy A X A0 v r ((v 5) ||| ((1 : Int32) <<< ((r 2 (a1 + (2 * x3)).toNatClampNeg) &&& 31))) y8.1 y8.2.1 y8.2.2 e8) (cwV 1 hts gX8_goYear_X8_comes rfl rfl rfl (by decide +kernel) ⟨Nat.le_of_ble_eq_true rfl, Nat.le_of_ble_eq_true rfl⟩) hI hK hN (ci := 7) rfl (atM_0) rfl rfl hl.1 rfl (Nat.le_of_ble_eq_true rfl) dX8_goYear_102 ⟨Nat.zero_le _, Nat.zero_le _⟩ (fun H locs hI => ?_)
            obtain ⟨y9, e9, hres⟩ := bd hres
            refine pu_s S (c_X8_size l y8.1 y9 e9) (va_cwS 1 hts gX8_goYear_X8_size rfl rfl rfl (by decide +kernel) ⟨Nat.le_of_ble_eq_true rfl, Nat.le_of_ble_eq_true rfl⟩) hN rfl hl.1 rfl (Nat.le_of_ble_eq_true rfl) dX8_goYear_105 ⟨Nat.zero_le _, Nat.zero_le _⟩ ?_
            refine lv_iadd hx hb dX8_goYear_108 ?_
            refine pM_away hx hb hts in8 hown hK hI (hts (.fieldLink RX8 170 "TrickHouseModel" "away" "I") (by decide +kernel)) dX8_goYear_109 (fun H locs hI => ?_)
            refine lv_aload_n hx hb dX8_goYear_112 rfl (lv_at hl 3 rfl) ?_
            refine lv_aload_n hx hb dX8_goYear_113 rfl (lv_at hl 3 rfl) ?_
            refine gM_thereNow hx hb hts in8 hown hK hI (hts (.fieldLink RX8 116 "TrickHouseModel" "thereNow" "I") (by decide +kernel)) dX8_goYear_114 ?_
            obtain ⟨y10, e10, hres⟩ := bd hres
            refine ro_v S (c_X8_laughsOf l D cy A X A0 (upd y8.2.1 10 ((v 10) + y9)) y8.2.2 ((upd y8.2.1 10 ((v 10) + y9)) 5) y10 e10) (cwV 1 hts gX8_goYear_X8_laughsOf rfl rfl rfl (by decide +kernel) ⟨Nat.le_of_ble_eq_true rfl, Nat.le_of_ble_eq_true rfl⟩) hI hK hN (ci := 7) rfl (atM_0) rfl rfl hl.1 rfl (Nat.le_of_ble_eq_true rfl) dX8_goYear_117 ⟨Nat.zero_le _, Nat.zero_le _⟩ ?_
            refine lv_istore (lv' := [(6, .int y10), (5, .int 0), (4, .int (r 2 (a1 + (2 * x3)).toNatClampNeg)), (3, .int x3), (0, .ref (A 0)), (1, .int a1), (2, .int a2)]) hx hb dX8_goYear_120 hl (by decide) rfl (fun ls hl => ?_)
            refine lv_aload_n hx hb dX8_goYear_122 rfl (lv_at hl 4 rfl) ?_
            refine lv_iload hx hb dX8_goYear_123 (lv_at hl 0 rfl) ?_
            refine lv_aload_n hx hb dX8_goYear_125 rfl (lv_at hl 4 rfl) ?_
            refine gM_loudest hx hb hts in8 hown hK hI (hts (.fieldLink RX8 173 "TrickHouseModel" "loudest" "I") (by decide +kernel)) dX8_goYear_126 ?_
            refine lv_icmp_le (tgt := 137) hx hb dX8_goYear_129 (by decide) (fun c11 => ?_) (fun c11 => ?_)
            · replace hres := (if_pos c11).symm.trans hres
              refine lv_aload_n hx hb dX8_goYear_137 rfl (lv_at hl 4 rfl) ?_
              refine gM_loudest hx hb hts in8 hown hK hI (hts (.fieldLink RX8 173 "TrickHouseModel" "loudest" "I") (by decide +kernel)) dX8_goYear_138 ?_
              refine pM_loudest hx hb hts in8 hown hK hI (hts (.fieldLink RX8 173 "TrickHouseModel" "loudest" "I") (by decide +kernel)) dX8_goYear_141 (fun H locs hI => ?_)
              refine lv_iinc (v := (x3 + 1)) (lv' := [(3, .int (x3 + 1)), (6, .int y10), (5, .int 0), (4, .int (r 2 (a1 + (2 * x3)).toNatClampNeg)), (0, .ref (A 0)), (1, .int a1), (2, .int a2)]) hx hb dX8_goYear_144 hl (k := 3) rfl rfl (by decide) rfl (fun ls hl => ?_)
              refine lv_goto (tgt := 12) hx hb dX8_goYear_147 (by decide) ?_
              exact ih12 (x3 + 1) (upd (upd y8.2.1 10 ((v 10) + y9)) 11 ((upd y8.2.1 10 ((v 10) + y9)) 11)) y8.2.2 _ _ hI hres ls (lv_sub hl [0, 4, 5, 6] rfl)
            · replace hres := (if_neg c11).symm.trans hres
              refine lv_iload hx hb dX8_goYear_132 (lv_at hl 0 rfl) ?_
              refine lv_goto (tgt := 141) hx hb dX8_goYear_134 (by decide) ?_
              refine pM_loudest hx hb hts in8 hown hK hI (hts (.fieldLink RX8 173 "TrickHouseModel" "loudest" "I") (by decide +kernel)) dX8_goYear_141 (fun H locs hI => ?_)
              refine lv_iinc (v := (x3 + 1)) (lv' := [(3, .int (x3 + 1)), (6, .int y10), (5, .int 0), (4, .int (r 2 (a1 + (2 * x3)).toNatClampNeg)), (0, .ref (A 0)), (1, .int a1), (2, .int a2)]) hx hb dX8_goYear_144 hl (k := 3) rfl rfl (by decide) rfl (fun ls hl => ?_)
              refine lv_goto (tgt := 12) hx hb dX8_goYear_147 (by decide) ?_
              exact ih12 (x3 + 1) (upd (upd y8.2.1 10 ((v 10) + y9)) 11 y10) y8.2.2 _ _ hI hres ls (lv_sub hl [0, 4, 5, 6] rfl)
          · replace hres := (if_neg c6).symm.trans hres
            refine lv_iload_n hx hb dX8_goYear_66 rfl (lv_at hl 2 rfl) ?_
            obtain ⟨rfl, rfl, rfl⟩ := pr3 hres
            exact W.iret hx hb hr (fun t ht hW => ⟨rfl, ⟨by rw [ht]; exact hI.1, va_K.moved hW.alike hK, hI.2.1, NW.warm hW hN⟩, hI.2.2.F ht⟩) hI.2.2.2.2 dX8_goYear_67
        · replace hres := (if_pos c4).symm.trans hres
          refine lv_iconst (v := 1) hx hb dX8_goYear_45 (by decide) ?_
          refine lv_goto (tgt := 50) hx hb dX8_goYear_46 (by decide) ?_
          refine lv_istore (lv' := [(5, .int 1), (4, .int (r 2 (a1 + (2 * x3)).toNatClampNeg)), (3, .int x3), (0, .ref (A 0)), (1, .int a1), (2, .int a2)]) hx hb dX8_goYear_50 hl (by decide) rfl (fun ls hl => ?_)
          refine lv_aload_n hx hb dX8_goYear_52 rfl (lv_at hl 3 rfl) ?_
          refine gM_thereNow hx hb hts in8 hown hK hI (hts (.fieldLink RX8 116 "TrickHouseModel" "thereNow" "I") (by decide +kernel)) dX8_goYear_53 ?_
          refine lv_iload hx hb dX8_goYear_56 (lv_at hl 1 rfl) ?_
          refine pu_s S (c_X8_isOf l (v 5) (r 2 (a1 + (2 * x3)).toNatClampNeg) _ rfl) (va_cwS 2 hts gX8_goYear_X8_isOf rfl rfl rfl (by decide +kernel) ⟨Nat.le_of_ble_eq_true rfl, Nat.le_of_ble_eq_true rfl⟩) hN rfl hl.1 rfl (Nat.le_of_ble_eq_true rfl) dX8_goYear_58 ⟨Nat.zero_le _, Nat.zero_le _⟩ ?_
          refine lv_iload hx hb dX8_goYear_61 (lv_at hl 0 rfl) ?_
          refine lv_icmp_eq (tgt := 68) hx hb dX8_goYear_63 (by decide) (fun c13 => ?_) (fun c13 => ?_)
          · replace hres := (if_pos c13).symm.trans hres
            refine lv_aload_n hx hb dX8_goYear_68 rfl (lv_at hl 3 rfl) ?_
            refine lv_dup hx hb dX8_goYear_69 rfl ?_
            refine gM_away hx hb hts in8 hown hK hI (hts (.fieldLink RX8 170 "TrickHouseModel" "away" "I") (by decide +kernel)) dX8_goYear_70 ?_
            refine lv_aload_n hx hb dX8_goYear_73 rfl (lv_at hl 3 rfl) ?_
            refine lv_iload hx hb dX8_goYear_74 (lv_at hl 0 rfl) ?_
            refine lv_if_eq (tgt := 93) hx hb dX8_goYear_76 (by decide) (fun c14 => absurd c14 (by decide)) (fun c14 => ?_)
            refine lv_aload_n hx hb dX8_goYear_79 rfl (lv_at hl 3 rfl) ?_
            refine gM_thereNow hx hb hts in8 hown hK hI (hts (.fieldLink RX8 116 "TrickHouseModel" "thereNow" "I") (by decide +kernel)) dX8_goYear_80 ?_
            refine lv_iconst (v := 1) hx hb dX8_goYear_83 (by decide) ?_
            refine lv_iload hx hb dX8_goYear_84 (lv_at hl 1 rfl) ?_
            refine lv_ishl hx hb dX8_goYear_86 ?_
            refine lv_iconst (v := (-1)) hx hb dX8_goYear_87 (by decide) ?_
            refine lv_ixor hx hb dX8_goYear_88 ?_
            refine lv_iand hx hb dX8_goYear_89 ?_
            refine lv_goto (tgt := 102) hx hb dX8_goYear_90 (by decide) ?_
            obtain ⟨y15, e15, hres⟩ := bd hres
            refine rw_v S (c_X8_comes l D cy A X A0 v r ((v 5) &&& (((1 : Int32) <<< ((r 2 (a1 + (2 * x3)).toNatClampNeg) &&& 31)) ^^^ (-1))) y15.1 y15.2.1 y15.2.2 e15) (cwV 1 hts gX8_goYear_X8_comes rfl rfl rfl (by decide +kernel) ⟨Nat.le_of_ble_eq_true rfl, Nat.le_of_ble_eq_true rfl⟩) hI hK hN (ci := 7) rfl (atM_0) rfl rfl hl.1 rfl (Nat.le_of_ble_eq_true rfl) dX8_goYear_102 ⟨Nat.zero_le _, Nat.zero_le _⟩ (fun H locs hI => ?_)
            obtain ⟨y16, e16, hres⟩ := bd hres
            refine pu_s S (c_X8_size l y15.1 y16 e16) (va_cwS 1 hts gX8_goYear_X8_size rfl rfl rfl (by decide +kernel) ⟨Nat.le_of_ble_eq_true rfl, Nat.le_of_ble_eq_true rfl⟩) hN rfl hl.1 rfl (Nat.le_of_ble_eq_true rfl) dX8_goYear_105 ⟨Nat.zero_le _, Nat.zero_le _⟩ ?_
            refine lv_iadd hx hb dX8_goYear_108 ?_
            refine pM_away hx hb hts in8 hown hK hI (hts (.fieldLink RX8 170 "TrickHouseModel" "away" "I") (by decide +kernel)) dX8_goYear_109 (fun H locs hI => ?_)
            refine lv_aload_n hx hb dX8_goYear_112 rfl (lv_at hl 3 rfl) ?_
            refine lv_aload_n hx hb dX8_goYear_113 rfl (lv_at hl 3 rfl) ?_
            refine gM_thereNow hx hb hts in8 hown hK hI (hts (.fieldLink RX8 116 "TrickHouseModel" "thereNow" "I") (by decide +kernel)) dX8_goYear_114 ?_
            obtain ⟨y17, e17, hres⟩ := bd hres
            refine ro_v S (c_X8_laughsOf l D cy A X A0 (upd y15.2.1 10 ((v 10) + y16)) y15.2.2 ((upd y15.2.1 10 ((v 10) + y16)) 5) y17 e17) (cwV 1 hts gX8_goYear_X8_laughsOf rfl rfl rfl (by decide +kernel) ⟨Nat.le_of_ble_eq_true rfl, Nat.le_of_ble_eq_true rfl⟩) hI hK hN (ci := 7) rfl (atM_0) rfl rfl hl.1 rfl (Nat.le_of_ble_eq_true rfl) dX8_goYear_117 ⟨Nat.zero_le _, Nat.zero_le _⟩ ?_
            refine lv_istore (lv' := [(6, .int y17), (5, .int 1), (4, .int (r 2 (a1 + (2 * x3)).toNatClampNeg)), (3, .int x3), (0, .ref (A 0)), (1, .int a1), (2, .int a2)]) hx hb dX8_goYear_120 hl (by decide) rfl (fun ls hl => ?_)
            refine lv_aload_n hx hb dX8_goYear_122 rfl (lv_at hl 4 rfl) ?_
            refine lv_iload hx hb dX8_goYear_123 (lv_at hl 0 rfl) ?_
            refine lv_aload_n hx hb dX8_goYear_125 rfl (lv_at hl 4 rfl) ?_
            refine gM_loudest hx hb hts in8 hown hK hI (hts (.fieldLink RX8 173 "TrickHouseModel" "loudest" "I") (by decide +kernel)) dX8_goYear_126 ?_
            refine lv_icmp_le (tgt := 137) hx hb dX8_goYear_129 (by decide) (fun c18 => ?_) (fun c18 => ?_)
            · replace hres := (if_pos c18).symm.trans hres
              refine lv_aload_n hx hb dX8_goYear_137 rfl (lv_at hl 4 rfl) ?_
              refine gM_loudest hx hb hts in8 hown hK hI (hts (.fieldLink RX8 173 "TrickHouseModel" "loudest" "I") (by decide +kernel)) dX8_goYear_138 ?_
              refine pM_loudest hx hb hts in8 hown hK hI (hts (.fieldLink RX8 173 "TrickHouseModel" "loudest" "I") (by decide +kernel)) dX8_goYear_141 (fun H locs hI => ?_)
              refine lv_iinc (v := (x3 + 1)) (lv' := [(3, .int (x3 + 1)), (6, .int y17), (5, .int 1), (4, .int (r 2 (a1 + (2 * x3)).toNatClampNeg)), (0, .ref (A 0)), (1, .int a1), (2, .int a2)]) hx hb dX8_goYear_144 hl (k := 3) rfl rfl (by decide) rfl (fun ls hl => ?_)
              refine lv_goto (tgt := 12) hx hb dX8_goYear_147 (by decide) ?_
              exact ih12 (x3 + 1) (upd (upd y15.2.1 10 ((v 10) + y16)) 11 ((upd y15.2.1 10 ((v 10) + y16)) 11)) y15.2.2 _ _ hI hres ls (lv_sub hl [0, 4, 5, 6] rfl)
            · replace hres := (if_neg c18).symm.trans hres
              refine lv_iload hx hb dX8_goYear_132 (lv_at hl 0 rfl) ?_
              refine lv_goto (tgt := 141) hx hb dX8_goYear_134 (by decide) ?_
              refine pM_loudest hx hb hts in8 hown hK hI (hts (.fieldLink RX8 173 "TrickHouseModel" "loudest" "I") (by decide +kernel)) dX8_goYear_141 (fun H locs hI => ?_)
              refine lv_iinc (v := (x3 + 1)) (lv' := [(3, .int (x3 + 1)), (6, .int y17), (5, .int 1), (4, .int (r 2 (a1 + (2 * x3)).toNatClampNeg)), (0, .ref (A 0)), (1, .int a1), (2, .int a2)]) hx hb dX8_goYear_144 hl (k := 3) rfl rfl (by decide) rfl (fun ls hl => ?_)
              refine lv_goto (tgt := 12) hx hb dX8_goYear_147 (by decide) ?_
              exact ih12 (x3 + 1) (upd (upd y15.2.1 10 ((v 10) + y16)) 11 y17) y15.2.2 _ _ hI hres ls (lv_sub hl [0, 4, 5, 6] rfl)
          · replace hres := (if_neg c13).symm.trans hres
            refine lv_iload_n hx hb dX8_goYear_66 rfl (lv_at hl 2 rfl) ?_
            obtain ⟨rfl, rfl, rfl⟩ := pr3 hres
            exact W.iret hx hb hr (fun t ht hW => ⟨rfl, ⟨by rw [ht]; exact hI.1, va_K.moved hW.alike hK, hI.2.1, NW.warm hW hN⟩, hI.2.2.F ht⟩) hI.2.2.2.2 dX8_goYear_67
  exact w12 80 (0 : Int32) (upd (upd v 10 0) 11 0) r _ _ hI hres ls (lv_sub hl [0, 1, 2, 3] rfl)
abbrev rm_X8_tellYear : Room := { frames := 2, cells := 0, slots := 0, locals := 44 }
def f_X8_tellYear (v : Nat → Int32) (r : Nat → Nat → Int32) (a1 : Int32) : Option Int32 := (if a1 = 0 then (f_X8_size (v 5)).bind (fun y2 => some (y2)) else (if a1 = 1 then some ((v 11)) else (if a1 = 2 then some ((v 5)) else (if a1 = 3 then some ((v 10)) else (if a1 = 4 then (f_X8_laughsOf v r (v 5)).bind (fun y7 => some (y7)) else some ((v 11)))))))
set_option maxHeartbeats 4000000 in
set_option maxRecDepth 100000 in
theorem c_X8_tellYear (l : Launch) (D : va_G) (cy : Nat → ClassId) (A : Nat → Nat) (X : va_W) (A0 : Nat → Prop) (v : Nat → Int32) (r : Nat → Nat → Int32) (a1 : Int32) (res : Int32) (hres : f_X8_tellYear v r a1 = some res) : Met l yX8_tellYear wsX8_tellYear rm_X8_tellYear (va_Pc [.ref (A 0), .int a1] (GW D (tyM cy) (pcM cy A v r ++ X) A0)) (QR (.int res)) 0 0 (fun _ => False) := by
  refine Met.ofW (cc := cX8_tellYear) (maxL := 2) (ret := (some .int)) (by decide) rfl ?_
  intro p e s m args below meth c s₁ B hml hv
  obtain ⟨hargs, hP, hK, hD0, hN⟩ := hv
  have hx := B.exec
  have hb := B.bytes
  have hr := B.returns
  have hts := atoms_spec (ws := wsX8_tellYear) B.pre
  have hown : s.vm.findClass RX8 = some m.cls := findClass_of_methodNamed B.named
  have hlocks := B.notSynchronized
  have hI : IW D (pcM cy A v r ++ X) A0 s.heap s.heap [] := ⟨hP, hD0, va_S.rf⟩
  have S : CallFix p m c cX8_tellYear 2 s args wsX8_tellYear RX8 := ⟨hx, hb, hml, hown, hts⟩
  have in8 : ∀ w ∈ wsX80, w ∈ wsX8_tellYear := fun _ h => List.mem_cons_of_mem _ (List.mem_append_right _ h)
  have hl := lv_entry ([.ref (A 0), .int a1]) (n := 2) (Nat.le_of_ble_eq_true rfl)
  have hE : entryFrame m args 2 = F0 m 0 ((lg_sl ([.ref (A 0), .int a1]) ++ List.replicate (2 - (lg_sl ([.ref (A 0), .int a1])).length) Slot.unset).toArray) [] := by rw [hargs]; exact lg_entry_eq m [.ref (A 0), .int a1] 2
  rw [hE]
  generalize (lg_sl ([.ref (A 0), .int a1]) ++ List.replicate (2 - (lg_sl ([.ref (A 0), .int a1])).length) Slot.unset).toArray = ls at hl ⊢
  have hl : lv_has ls 2 [(0, .ref (A 0)), (1, .int a1)] := hl
  unfold f_X8_tellYear at hres
  refine lv_iload_n hx hb dX8_tellYear_0 rfl (lv_at hl 1 rfl) ?_
  by_cases c1 : a1 = 0
  · replace hres := (if_pos c1).symm.trans hres
    refine lv_tableIn (off := 35) (tgt := 36) hx hb dX8_tellYear_1 (by rw [c1]; decide) (by rw [c1]; decide) (by rw [c1]; decide) (by decide) ?_
    refine lv_aload_n hx hb dX8_tellYear_36 rfl (lv_at hl 0 rfl) ?_
    refine gM_thereNow hx hb hts in8 hown hK hI (hts (.fieldLink RX8 116 "TrickHouseModel" "thereNow" "I") (by decide +kernel)) dX8_tellYear_37 ?_
    obtain ⟨y2, e2, hres⟩ := bd hres
    refine pu_s S (c_X8_size l (v 5) y2 e2) (va_cwS 1 hts gX8_tellYear_X8_size rfl rfl rfl (by decide +kernel) ⟨Nat.le_of_ble_eq_true rfl, Nat.le_of_ble_eq_true rfl⟩) hN rfl hl.1 rfl (Nat.le_of_ble_eq_true rfl) dX8_tellYear_40 ⟨Nat.zero_le _, Nat.zero_le _⟩ ?_
    obtain rfl := Option.some.inj hres
    exact W.iret hx hb hr (fun t ht hW => ⟨rfl, ht⟩) (fun _ h => absurd h List.not_mem_nil) dX8_tellYear_43
  · replace hres := (if_neg c1).symm.trans hres
    by_cases c3 : a1 = 1
    · replace hres := (if_pos c3).symm.trans hres
      refine lv_tableIn (off := 62) (tgt := 63) hx hb dX8_tellYear_1 (by rw [c3]; decide) (by rw [c3]; decide) (by rw [c3]; decide) (by decide) ?_
      refine lv_aload_n hx hb dX8_tellYear_63 rfl (lv_at hl 0 rfl) ?_
      refine gM_loudest hx hb hts in8 hown hK hI (hts (.fieldLink RX8 173 "TrickHouseModel" "loudest" "I") (by decide +kernel)) dX8_tellYear_64 ?_
      obtain rfl := Option.some.inj hres
      exact W.iret hx hb hr (fun t ht hW => ⟨rfl, ht⟩) (fun _ h => absurd h List.not_mem_nil) dX8_tellYear_67
    · replace hres := (if_neg c3).symm.trans hres
      by_cases c4 : a1 = 2
      · replace hres := (if_pos c4).symm.trans hres
        refine lv_tableIn (off := 43) (tgt := 44) hx hb dX8_tellYear_1 (by rw [c4]; decide) (by rw [c4]; decide) (by rw [c4]; decide) (by decide) ?_
        refine lv_aload_n hx hb dX8_tellYear_44 rfl (lv_at hl 0 rfl) ?_
        refine gM_thereNow hx hb hts in8 hown hK hI (hts (.fieldLink RX8 116 "TrickHouseModel" "thereNow" "I") (by decide +kernel)) dX8_tellYear_45 ?_
        obtain rfl := Option.some.inj hres
        exact W.iret hx hb hr (fun t ht hW => ⟨rfl, ht⟩) (fun _ h => absurd h List.not_mem_nil) dX8_tellYear_48
      · replace hres := (if_neg c4).symm.trans hres
        by_cases c5 : a1 = 3
        · replace hres := (if_pos c5).symm.trans hres
          refine lv_tableIn (off := 48) (tgt := 49) hx hb dX8_tellYear_1 (by rw [c5]; decide) (by rw [c5]; decide) (by rw [c5]; decide) (by decide) ?_
          refine lv_aload_n hx hb dX8_tellYear_49 rfl (lv_at hl 0 rfl) ?_
          refine gM_away hx hb hts in8 hown hK hI (hts (.fieldLink RX8 170 "TrickHouseModel" "away" "I") (by decide +kernel)) dX8_tellYear_50 ?_
          obtain rfl := Option.some.inj hres
          exact W.iret hx hb hr (fun t ht hW => ⟨rfl, ht⟩) (fun _ h => absurd h List.not_mem_nil) dX8_tellYear_53
        · replace hres := (if_neg c5).symm.trans hres
          by_cases c6 : a1 = 4
          · replace hres := (if_pos c6).symm.trans hres
            refine lv_tableIn (off := 53) (tgt := 54) hx hb dX8_tellYear_1 (by rw [c6]; decide) (by rw [c6]; decide) (by rw [c6]; decide) (by decide) ?_
            refine lv_aload_n hx hb dX8_tellYear_54 rfl (lv_at hl 0 rfl) ?_
            refine lv_aload_n hx hb dX8_tellYear_55 rfl (lv_at hl 0 rfl) ?_
            refine gM_thereNow hx hb hts in8 hown hK hI (hts (.fieldLink RX8 116 "TrickHouseModel" "thereNow" "I") (by decide +kernel)) dX8_tellYear_56 ?_
            obtain ⟨y7, e7, hres⟩ := bd hres
            refine ro_v S (c_X8_laughsOf l D cy A X A0 v r (v 5) y7 e7) (cwV 1 hts gX8_tellYear_X8_laughsOf rfl rfl rfl (by decide +kernel) ⟨Nat.le_of_ble_eq_true rfl, Nat.le_of_ble_eq_true rfl⟩) hI hK hN (ci := 7) rfl (atM_0) rfl rfl hl.1 rfl (Nat.le_of_ble_eq_true rfl) dX8_tellYear_59 ⟨Nat.zero_le _, Nat.zero_le _⟩ ?_
            obtain rfl := Option.some.inj hres
            exact W.iret hx hb hr (fun t ht hW => ⟨rfl, ht⟩) (fun _ h => absurd h List.not_mem_nil) dX8_tellYear_62
          · replace hres := (if_neg c6).symm.trans hres
            have e1 := lv_neT c1 (show (0 : Int32).toInt = 0 from rfl)
            have e3 := lv_neT c3 (show (1 : Int32).toInt = 1 from rfl)
            have e4 := lv_neT c4 (show (2 : Int32).toInt = 2 from rfl)
            have e5 := lv_neT c5 (show (3 : Int32).toInt = 3 from rfl)
            have e6 := lv_neT c6 (show (4 : Int32).toInt = 4 from rfl)
            refine lv_tableOut (tgt := 63) hx hb dX8_tellYear_1 (by omega) (by decide) ?_
            refine lv_aload_n hx hb dX8_tellYear_63 rfl (lv_at hl 0 rfl) ?_
            refine gM_loudest hx hb hts in8 hown hK hI (hts (.fieldLink RX8 173 "TrickHouseModel" "loudest" "I") (by decide +kernel)) dX8_tellYear_64 ?_
            obtain rfl := Option.some.inj hres
            exact W.iret hx hb hr (fun t ht hW => ⟨rfl, ht⟩) (fun _ h => absurd h List.not_mem_nil) dX8_tellYear_67
abbrev rm_X8_year : Room := { frames := 5, cells := 0, slots := 0, locals := 117 }
def f_X8_year_91 (a1 : Int32) (a2 : Int32) (a3 : Int32) (a4 : Int32) (a5 : Int32) : Nat → Int32 → Int32 → (Nat → Int32) → (Nat → Nat → Int32) → Option (Int32 × ST)
  | 0, _, _, _, _ => none
  | n91 + 1, x7, x8, v, r => (if a4 ≤ x8 then (f_X8_goYear v r x7 a4).bind (fun y13 => (f_X8_tellYear y13.2.1 y13.2.2 a5).bind (fun y14 => (if a5 = 1 then some (y13.1, ((upd y13.2.1 5 (v 5)), y13.2.2)) else (if y13.1 = (-9) then some (y14, ((upd y13.2.1 5 (v 5)), y13.2.2)) else some (((-100) - y13.1), ((upd y13.2.1 5 (v 5)), y13.2.2)))))) else if inR (x7 + (2 * x8)) 240 = true then (if (f_X8_isArticle v r (r 2 (x7 + (2 * x8)).toNatClampNeg)) = true then if inR ((x7 + (2 * x8)) + 1) 240 = true then (if (f_X8_within (r 2 ((x7 + (2 * x8)) + 1).toNatClampNeg) (0 : Int32) (1 : Int32)) = true then f_X8_year_91 a1 a2 a3 a4 a5 n91 x7 (x8 + 1) v r else some ((-2), (v, r))) else none else some ((-1), (v, r))) else none)
theorem f_X8_year_91_s (a1 : Int32) (a2 : Int32) (a3 : Int32) (a4 : Int32) (a5 : Int32) (n91 : Nat) (x7 : Int32) (x8 : Int32) (v : (Nat → Int32)) (r : (Nat → Nat → Int32)) : f_X8_year_91 a1 a2 a3 a4 a5 (n91 + 1) x7 x8 v r = (if a4 ≤ x8 then (f_X8_goYear v r x7 a4).bind (fun y13 => (f_X8_tellYear y13.2.1 y13.2.2 a5).bind (fun y14 => (if a5 = 1 then some (y13.1, ((upd y13.2.1 5 (v 5)), y13.2.2)) else (if y13.1 = (-9) then some (y14, ((upd y13.2.1 5 (v 5)), y13.2.2)) else some (((-100) - y13.1), ((upd y13.2.1 5 (v 5)), y13.2.2)))))) else if inR (x7 + (2 * x8)) 240 = true then (if (f_X8_isArticle v r (r 2 (x7 + (2 * x8)).toNatClampNeg)) = true then if inR ((x7 + (2 * x8)) + 1) 240 = true then (if (f_X8_within (r 2 ((x7 + (2 * x8)) + 1).toNatClampNeg) (0 : Int32) (1 : Int32)) = true then f_X8_year_91 a1 a2 a3 a4 a5 n91 x7 (x8 + 1) v r else some ((-2), (v, r))) else none else some ((-1), (v, r))) else none) := rfl
def f_X8_year (v : Nat → Int32) (r : Nat → Nat → Int32) (a1 : Int32) (a2 : Int32) (a3 : Int32) (a4 : Int32) (a5 : Int32) : Option (Int32 × ST) := (if (f_X8_isSheet a1) = true then (if (f_X8_isSort a2) = true then (if (f_X8_within a4 (0 : Int32) (20 : Int32)) = true then (if (f_X8_within a5 (0 : Int32) (5 : Int32)) = true then (f_X8_against (upd v 0 0) r a1 a2 a3 (2 * a4)).bind (fun y9 => (if y9 = 0 then (if ((upd v 0 0) 4) = 0 then some ((-3), ((upd v 0 0), r)) else f_X8_year_91 a1 a2 a3 a4 a5 80 ((60 * a1) + a3) (0 : Int32) (upd v 0 0) r) else (f_X8_fails (upd v 0 0) r y9).bind (fun y23 => some (y23.1, (y23.2.1, y23.2.2))))) else some ((-2), ((upd v 0 0), r))) else some ((-2), ((upd v 0 0), r))) else some ((-2), ((upd v 0 0), r))) else some ((-1), ((upd v 0 0), r)))
set_option maxHeartbeats 4000000 in
set_option maxRecDepth 100000 in
theorem c_X8_year (l : Launch) (D : va_G) (cy : Nat → ClassId) (A : Nat → Nat) (X : va_W) (A0 : Nat → Prop) (v : Nat → Int32) (r : Nat → Nat → Int32) (a1 : Int32) (a2 : Int32) (a3 : Int32) (a4 : Int32) (a5 : Int32) (res : Int32) (v2 : Nat → Int32) (r2 : Nat → Nat → Int32) (hres : f_X8_year v r a1 a2 a3 a4 a5 = some (res, (v2, r2))) : Met l yX8_year wsX8_year rm_X8_year (va_Pc [.ref (A 0), .int a1, .int a2, .int a3, .int a4, .int a5] (GW D (tyM cy) (pcM cy A v r ++ X) A0)) (QW (some (.int res)) (GW D (tyM cy) (pcM cy A v2 r2 ++ X) A0) A0) 0 0 A0 := by
  refine Met.ofW (cc := cX8_year) (maxL := 11) (ret := (some .int)) (by decide) rfl ?_
  intro p e s m args below meth c s₁ B hml hv
  obtain ⟨hargs, hP, hK, hD0, hN⟩ := hv
  have hx := B.exec
  have hb := B.bytes
  have hr := B.returns
  have hts := atoms_spec (ws := wsX8_year) B.pre
  have hown : s.vm.findClass RX8 = some m.cls := findClass_of_methodNamed B.named
  have hlocks := B.notSynchronized
  have hI : IW D (pcM cy A v r ++ X) A0 s.heap s.heap [] := ⟨hP, hD0, va_S.rf⟩
  have S : CallFix p m c cX8_year 11 s args wsX8_year RX8 := ⟨hx, hb, hml, hown, hts⟩
  have in8 : ∀ w ∈ wsX80, w ∈ wsX8_year := fun _ h => List.mem_cons_of_mem _ (List.mem_append_right _ h)
  have hl := lv_entry ([.ref (A 0), .int a1, .int a2, .int a3, .int a4, .int a5]) (n := 11) (Nat.le_of_ble_eq_true rfl)
  have hE : entryFrame m args 11 = F0 m 0 ((lg_sl ([.ref (A 0), .int a1, .int a2, .int a3, .int a4, .int a5]) ++ List.replicate (11 - (lg_sl ([.ref (A 0), .int a1, .int a2, .int a3, .int a4, .int a5])).length) Slot.unset).toArray) [] := by rw [hargs]; exact lg_entry_eq m [.ref (A 0), .int a1, .int a2, .int a3, .int a4, .int a5] 11
  rw [hE]
  generalize (lg_sl ([.ref (A 0), .int a1, .int a2, .int a3, .int a4, .int a5]) ++ List.replicate (11 - (lg_sl ([.ref (A 0), .int a1, .int a2, .int a3, .int a4, .int a5])).length) Slot.unset).toArray = ls at hl ⊢
  have hl : lv_has ls 11 [(0, .ref (A 0)), (1, .int a1), (2, .int a2), (3, .int a3), (4, .int a4), (5, .int a5)] := hl
  unfold f_X8_year at hres
  refine lv_aload_n hx hb dX8_year_0 rfl (lv_at hl 0 rfl) ?_
  refine lv_iconst (v := 0) hx hb dX8_year_1 (by decide) ?_
  refine pM_fault hx hb hts in8 hown hK hI (hts (.fieldLink RX8 64 "TrickHouseModel" "fault" "I") (by decide +kernel)) dX8_year_2 (fun H locs hI => ?_)
  refine lv_iload_n hx hb dX8_year_5 rfl (lv_at hl 1 rfl) ?_
  refine pu_s S (c_X8_isSheet l a1 _ rfl) (va_cwS 1 hts gX8_year_X8_isSheet rfl rfl rfl (by decide +kernel) ⟨Nat.le_of_ble_eq_true rfl, Nat.le_of_ble_eq_true rfl⟩) hN rfl hl.1 rfl (Nat.le_of_ble_eq_true rfl) dX8_year_6 ⟨Nat.zero_le _, Nat.zero_le _⟩ ?_
  refine lv_if_ne (tgt := 14) hx hb dX8_year_9 (by decide) (fun c2 => ?_) (fun c2 => ?_)
  · replace hres := (if_pos (bI_t c2)).symm.trans hres
    refine lv_iload_n hx hb dX8_year_14 rfl (lv_at hl 2 rfl) ?_
    refine pu_s S (c_X8_isSort l a2 _ rfl) (va_cwS 1 hts gX8_year_X8_isSort rfl rfl rfl (by decide +kernel) ⟨Nat.le_of_ble_eq_true rfl, Nat.le_of_ble_eq_true rfl⟩) hN rfl hl.1 rfl (Nat.le_of_ble_eq_true rfl) dX8_year_15 ⟨Nat.zero_le _, Nat.zero_le _⟩ ?_
    refine lv_if_eq (tgt := 42) hx hb dX8_year_18 (by decide) (fun c4 => ?_) (fun c4 => ?_)
    · replace hres := (if_neg (bI_f c4)).symm.trans hres
      refine lv_bipush (v := (-2)) hx hb dX8_year_42 (by decide) ?_
      obtain ⟨rfl, rfl, rfl⟩ := pr3 hres
      exact W.iret hx hb hr (fun t ht hW => ⟨rfl, ⟨by rw [ht]; exact hI.1, va_K.moved hW.alike hK, hI.2.1, NW.warm hW hN⟩, hI.2.2.F ht⟩) hI.2.2.2.2 dX8_year_44
    · replace hres := (if_pos (bI_t c4)).symm.trans hres
      refine lv_iload hx hb dX8_year_21 (lv_at hl 4 rfl) ?_
      refine lv_iconst (v := 0) hx hb dX8_year_23 (by decide) ?_
      refine lv_bipush (v := 20) hx hb dX8_year_24 (by decide) ?_
      refine pu_s S (c_X8_within l a4 (0 : Int32) (20 : Int32) _ rfl) (va_cwS 3 hts gX8_year_X8_within rfl rfl rfl (by decide +kernel) ⟨Nat.le_of_ble_eq_true rfl, Nat.le_of_ble_eq_true rfl⟩) hN rfl hl.1 rfl (Nat.le_of_ble_eq_true rfl) dX8_year_26 ⟨Nat.zero_le _, Nat.zero_le _⟩ ?_
      refine lv_if_eq (tgt := 42) hx hb dX8_year_29 (by decide) (fun c6 => ?_) (fun c6 => ?_)
      · replace hres := (if_neg (bI_f c6)).symm.trans hres
        refine lv_bipush (v := (-2)) hx hb dX8_year_42 (by decide) ?_
        obtain ⟨rfl, rfl, rfl⟩ := pr3 hres
        exact W.iret hx hb hr (fun t ht hW => ⟨rfl, ⟨by rw [ht]; exact hI.1, va_K.moved hW.alike hK, hI.2.1, NW.warm hW hN⟩, hI.2.2.F ht⟩) hI.2.2.2.2 dX8_year_44
      · replace hres := (if_pos (bI_t c6)).symm.trans hres
        refine lv_iload hx hb dX8_year_32 (lv_at hl 5 rfl) ?_
        refine lv_iconst (v := 0) hx hb dX8_year_34 (by decide) ?_
        refine lv_iconst (v := 5) hx hb dX8_year_35 (by decide) ?_
        refine pu_s S (c_X8_within l a5 (0 : Int32) (5 : Int32) _ rfl) (va_cwS 3 hts gX8_year_X8_within rfl rfl rfl (by decide +kernel) ⟨Nat.le_of_ble_eq_true rfl, Nat.le_of_ble_eq_true rfl⟩) hN rfl hl.1 rfl (Nat.le_of_ble_eq_true rfl) dX8_year_36 ⟨Nat.zero_le _, Nat.zero_le _⟩ ?_
        refine lv_if_ne (tgt := 45) hx hb dX8_year_39 (by decide) (fun c8 => ?_) (fun c8 => ?_)
        · replace hres := (if_pos (bI_t c8)).symm.trans hres
          refine lv_aload_n hx hb dX8_year_45 rfl (lv_at hl 0 rfl) ?_
          refine lv_iload_n hx hb dX8_year_46 rfl (lv_at hl 1 rfl) ?_
          refine lv_iload_n hx hb dX8_year_47 rfl (lv_at hl 2 rfl) ?_
          refine lv_iload_n hx hb dX8_year_48 rfl (lv_at hl 3 rfl) ?_
          refine lv_iconst (v := 2) hx hb dX8_year_49 (by decide) ?_
          refine lv_iload hx hb dX8_year_50 (lv_at hl 4 rfl) ?_
          refine lv_imul hx hb dX8_year_52 ?_
          obtain ⟨y9, e9, hres⟩ := bd hres
          refine ro_v S (c_X8_against l D cy A X A0 (upd v 0 0) r a1 a2 a3 (2 * a4) y9 e9) (cwV 4 hts gX8_year_X8_against rfl rfl rfl (by decide +kernel) ⟨Nat.le_of_ble_eq_true rfl, Nat.le_of_ble_eq_true rfl⟩) hI hK hN (ci := 7) rfl (atM_0) rfl rfl hl.1 rfl (Nat.le_of_ble_eq_true rfl) dX8_year_53 ⟨Nat.zero_le _, Nat.zero_le _⟩ ?_
          refine lv_istore (lv' := [(6, .int y9), (0, .ref (A 0)), (1, .int a1), (2, .int a2), (3, .int a3), (4, .int a4), (5, .int a5)]) hx hb dX8_year_56 hl (by decide) rfl (fun ls hl => ?_)
          refine lv_iload hx hb dX8_year_58 (lv_at hl 0 rfl) ?_
          refine lv_if_eq (tgt := 70) hx hb dX8_year_60 (by decide) (fun c10 => ?_) (fun c10 => ?_)
          · replace hres := (if_pos c10).symm.trans hres
            refine lv_aload_n hx hb dX8_year_70 rfl (lv_at hl 1 rfl) ?_
            refine gM_articles hx hb hts in8 hown hK hI (hts (.fieldLink RX8 74 "TrickHouseModel" "articles" "I") (by decide +kernel)) dX8_year_71 ?_
            refine lv_if_ne (tgt := 80) hx hb dX8_year_74 (by decide) (fun c11 => ?_) (fun c11 => ?_)
            · replace hres := (if_neg c11).symm.trans hres
              refine lv_bipush (v := 60) hx hb dX8_year_80 (by decide) ?_
              refine lv_iload_n hx hb dX8_year_82 rfl (lv_at hl 2 rfl) ?_
              refine lv_imul hx hb dX8_year_83 ?_
              refine lv_iload_n hx hb dX8_year_84 rfl (lv_at hl 4 rfl) ?_
              refine lv_iadd hx hb dX8_year_85 ?_
              refine lv_istore (lv' := [(7, .int ((60 * a1) + a3)), (6, .int y9), (0, .ref (A 0)), (1, .int a1), (2, .int a2), (3, .int a3), (4, .int a4), (5, .int a5)]) hx hb dX8_year_86 hl (by decide) rfl (fun ls hl => ?_)
              refine lv_iconst (v := 0) hx hb dX8_year_88 (by decide) ?_
              refine lv_istore (lv' := [(8, .int 0), (7, .int ((60 * a1) + a3)), (6, .int y9), (0, .ref (A 0)), (1, .int a1), (2, .int a2), (3, .int a3), (4, .int a4), (5, .int a5)]) hx hb dX8_year_89 hl (by decide) rfl (fun ls hl => ?_)
              have w91 : ∀ (n91 : Nat) (x7 : Int32) (x8 : Int32) (v : (Nat → Int32)) (r : (Nat → Nat → Int32)), ∀ (H : Heap) (locs : List Loc), IW D (pcM cy A v r ++ X) A0 s.heap H locs → f_X8_year_91 a1 a2 a3 a4 a5 n91 x7 x8 v r = some (res, (v2, r2)) → ∀ ls : Array Slot, lv_has ls 11 [(7, .int x7), (8, .int x8), (0, .ref (A 0)), (4, .int a4), (5, .int a5)] → W p l e (headSpec wsX8_year rm_X8_year).room s m args below meth c H locs 0 0 (MQ below (QW (some (.int res)) (GW D (tyM cy) (pcM cy A v2 r2 ++ X) A0) A0) args s 0 0 A0) (F0 m 91 ls []) := by
                intro n91
                induction n91 with
                | zero =>
                  intro x7 x8 v r H locs hI hres
                  have hres : (none : Option (Int32 × ST)) = some (res, (v2, r2)) := hres
                  cases hres
                | succ n91 ih91 =>
                  intro x7 x8 v r H locs hI hres ls hl
                  replace hres := (f_X8_year_91_s a1 a2 a3 a4 a5 n91 x7 x8 v r).symm.trans hres
                  refine lv_iload hx hb dX8_year_91 (lv_at hl 1 rfl) ?_
                  refine lv_iload hx hb dX8_year_93 (lv_at hl 3 rfl) ?_
                  refine lv_icmp_ge (tgt := 150) hx hb dX8_year_95 (by decide) (fun c12 => ?_) (fun c12 => ?_)
                  · replace hres := (if_pos c12).symm.trans hres
                    refine lv_aload_n hx hb dX8_year_150 rfl (lv_at hl 2 rfl) ?_
                    refine gM_thereNow hx hb hts in8 hown hK hI (hts (.fieldLink RX8 116 "TrickHouseModel" "thereNow" "I") (by decide +kernel)) dX8_year_151 ?_
                    refine lv_istore (lv' := [(8, .int (v 5)), (7, .int x7), (0, .ref (A 0)), (4, .int a4), (5, .int a5)]) hx hb dX8_year_154 hl (by decide) rfl (fun ls hl => ?_)
                    refine lv_aload_n hx hb dX8_year_156 rfl (lv_at hl 2 rfl) ?_
                    refine lv_iload hx hb dX8_year_157 (lv_at hl 1 rfl) ?_
                    refine lv_iload hx hb dX8_year_159 (lv_at hl 3 rfl) ?_
                    obtain ⟨y13, e13, hres⟩ := bd hres
                    refine rw_v S (c_X8_goYear l D cy A X A0 v r x7 a4 y13.1 y13.2.1 y13.2.2 e13) (cwV 2 hts gX8_year_X8_goYear rfl rfl rfl (by decide +kernel) ⟨Nat.le_of_ble_eq_true rfl, Nat.le_of_ble_eq_true rfl⟩) hI hK hN (ci := 7) rfl (atM_0) rfl rfl hl.1 rfl (Nat.le_of_ble_eq_true rfl) dX8_year_161 ⟨Nat.zero_le _, Nat.zero_le _⟩ (fun H locs hI => ?_)
                    refine lv_istore (lv' := [(9, .int y13.1), (8, .int (v 5)), (7, .int x7), (0, .ref (A 0)), (4, .int a4), (5, .int a5)]) hx hb dX8_year_164 hl (by decide) rfl (fun ls hl => ?_)
                    refine lv_aload_n hx hb dX8_year_166 rfl (lv_at hl 3 rfl) ?_
                    refine lv_iload hx hb dX8_year_167 (lv_at hl 5 rfl) ?_
                    obtain ⟨y14, e14, hres⟩ := bd hres
                    refine ro_v S (c_X8_tellYear l D cy A X A0 y13.2.1 y13.2.2 a5 y14 e14) (cwV 1 hts gX8_year_X8_tellYear rfl rfl rfl (by decide +kernel) ⟨Nat.le_of_ble_eq_true rfl, Nat.le_of_ble_eq_true rfl⟩) hI hK hN (ci := 7) rfl (atM_0) rfl rfl hl.1 rfl (Nat.le_of_ble_eq_true rfl) dX8_year_169 ⟨Nat.zero_le _, Nat.zero_le _⟩ ?_
                    refine lv_istore (lv' := [(10, .int y14), (9, .int y13.1), (8, .int (v 5)), (7, .int x7), (0, .ref (A 0)), (4, .int a4), (5, .int a5)]) hx hb dX8_year_172 hl (by decide) rfl (fun ls hl => ?_)
                    refine lv_aload_n hx hb dX8_year_174 rfl (lv_at hl 4 rfl) ?_
                    refine lv_iload hx hb dX8_year_175 (lv_at hl 2 rfl) ?_
                    refine pM_thereNow hx hb hts in8 hown hK hI (hts (.fieldLink RX8 116 "TrickHouseModel" "thereNow" "I") (by decide +kernel)) dX8_year_177 (fun H locs hI => ?_)
                    refine lv_iload hx hb dX8_year_180 (lv_at hl 6 rfl) ?_
                    refine lv_iconst (v := 1) hx hb dX8_year_182 (by decide) ?_
                    refine lv_icmp_ne (tgt := 191) hx hb dX8_year_183 (by decide) (fun c15 => ?_) (fun c15 => ?_)
                    · replace hres := (if_neg c15).symm.trans hres
                      refine lv_iload hx hb dX8_year_191 (lv_at hl 1 rfl) ?_
                      refine lv_bipush (v := (-9)) hx hb dX8_year_193 (by decide) ?_
                      refine lv_icmp_ne (tgt := 203) hx hb dX8_year_195 (by decide) (fun c16 => ?_) (fun c16 => ?_)
                      · replace hres := (if_neg c16).symm.trans hres
                        refine lv_bipush (v := (-100)) hx hb dX8_year_203 (by decide) ?_
                        refine lv_iload hx hb dX8_year_205 (lv_at hl 1 rfl) ?_
                        refine lv_isub hx hb dX8_year_207 ?_
                        obtain ⟨rfl, rfl, rfl⟩ := pr3 hres
                        exact W.iret hx hb hr (fun t ht hW => ⟨rfl, ⟨by rw [ht]; exact hI.1, va_K.moved hW.alike hK, hI.2.1, NW.warm hW hN⟩, hI.2.2.F ht⟩) hI.2.2.2.2 dX8_year_208
                      · replace hres := (if_pos c16).symm.trans hres
                        refine lv_iload hx hb dX8_year_198 (lv_at hl 0 rfl) ?_
                        refine lv_goto (tgt := 208) hx hb dX8_year_200 (by decide) ?_
                        obtain ⟨rfl, rfl, rfl⟩ := pr3 hres
                        exact W.iret hx hb hr (fun t ht hW => ⟨rfl, ⟨by rw [ht]; exact hI.1, va_K.moved hW.alike hK, hI.2.1, NW.warm hW hN⟩, hI.2.2.F ht⟩) hI.2.2.2.2 dX8_year_208
                    · replace hres := (if_pos c15).symm.trans hres
                      refine lv_iload hx hb dX8_year_186 (lv_at hl 1 rfl) ?_
                      refine lv_goto (tgt := 208) hx hb dX8_year_188 (by decide) ?_
                      obtain ⟨rfl, rfl, rfl⟩ := pr3 hres
                      exact W.iret hx hb hr (fun t ht hW => ⟨rfl, ⟨by rw [ht]; exact hI.1, va_K.moved hW.alike hK, hI.2.1, NW.warm hW hN⟩, hI.2.2.F ht⟩) hI.2.2.2.2 dX8_year_208
                  · replace hres := (if_neg c12).symm.trans hres
                    refine lv_aload_n hx hb dX8_year_98 rfl (lv_at hl 2 rfl) ?_
                    refine lv_aload_n hx hb dX8_year_99 rfl (lv_at hl 2 rfl) ?_
                    refine gM_cells hx hb hts in8 hown hK hI (hts (.fieldLink RX8 16 "TrickHouseModel" "cells" "[I") (by decide +kernel)) dX8_year_100 ?_
                    refine lv_iload hx hb dX8_year_103 (lv_at hl 0 rfl) ?_
                    refine lv_iconst (v := 2) hx hb dX8_year_105 (by decide) ?_
                    refine lv_iload hx hb dX8_year_106 (lv_at hl 1 rfl) ?_
                    refine lv_imul hx hb dX8_year_108 ?_
                    refine lv_iadd hx hb dX8_year_109 ?_
                    obtain ⟨g17, hres⟩ := gd hres
                    refine th_ild hx hb hK hI 3 0 rfl rfl g17 dX8_year_110 ?_
                    refine ro_v S (c_X8_isArticle l D cy A X A0 v r (r 2 (x7 + (2 * x8)).toNatClampNeg) _ rfl) (cwV 1 hts gX8_year_X8_isArticle rfl rfl rfl (by decide +kernel) ⟨Nat.le_of_ble_eq_true rfl, Nat.le_of_ble_eq_true rfl⟩) hI hK hN (ci := 7) rfl (atM_0) rfl rfl hl.1 rfl (Nat.le_of_ble_eq_true rfl) dX8_year_111 ⟨Nat.zero_le _, Nat.zero_le _⟩ ?_
                    refine lv_if_ne (tgt := 119) hx hb dX8_year_114 (by decide) (fun c19 => ?_) (fun c19 => ?_)
                    · replace hres := (if_pos (bI_t c19)).symm.trans hres
                      refine lv_aload_n hx hb dX8_year_119 rfl (lv_at hl 2 rfl) ?_
                      refine gM_cells hx hb hts in8 hown hK hI (hts (.fieldLink RX8 16 "TrickHouseModel" "cells" "[I") (by decide +kernel)) dX8_year_120 ?_
                      refine lv_iload hx hb dX8_year_123 (lv_at hl 0 rfl) ?_
                      refine lv_iconst (v := 2) hx hb dX8_year_125 (by decide) ?_
                      refine lv_iload hx hb dX8_year_126 (lv_at hl 1 rfl) ?_
                      refine lv_imul hx hb dX8_year_128 ?_
                      refine lv_iadd hx hb dX8_year_129 ?_
                      refine lv_iconst (v := 1) hx hb dX8_year_130 (by decide) ?_
                      refine lv_iadd hx hb dX8_year_131 ?_
                      obtain ⟨g20, hres⟩ := gd hres
                      refine th_ild hx hb hK hI 3 0 rfl rfl g20 dX8_year_132 ?_
                      refine lv_iconst (v := 0) hx hb dX8_year_133 (by decide) ?_
                      refine lv_iconst (v := 1) hx hb dX8_year_134 (by decide) ?_
                      refine pu_s S (c_X8_within l (r 2 ((x7 + (2 * x8)) + 1).toNatClampNeg) (0 : Int32) (1 : Int32) _ rfl) (va_cwS 3 hts gX8_year_X8_within rfl rfl rfl (by decide +kernel) ⟨Nat.le_of_ble_eq_true rfl, Nat.le_of_ble_eq_true rfl⟩) hN rfl hl.1 rfl (Nat.le_of_ble_eq_true rfl) dX8_year_135 ⟨Nat.zero_le _, Nat.zero_le _⟩ ?_
                      refine lv_if_ne (tgt := 144) hx hb dX8_year_138 (by decide) (fun c22 => ?_) (fun c22 => ?_)
                      · replace hres := (if_pos (bI_t c22)).symm.trans hres
                        refine lv_iinc (v := (x8 + 1)) (lv' := [(8, .int (x8 + 1)), (7, .int x7), (0, .ref (A 0)), (4, .int a4), (5, .int a5)]) hx hb dX8_year_144 hl (k := 1) rfl rfl (by decide) rfl (fun ls hl => ?_)
                        refine lv_goto (tgt := 91) hx hb dX8_year_147 (by decide) ?_
                        exact ih91 x7 (x8 + 1) v r _ _ hI hres ls (lv_sub hl [1, 0, 2, 3, 4] rfl)
                      · replace hres := (if_neg (bI_f c22)).symm.trans hres
                        refine lv_bipush (v := (-2)) hx hb dX8_year_141 (by decide) ?_
                        obtain ⟨rfl, rfl, rfl⟩ := pr3 hres
                        exact W.iret hx hb hr (fun t ht hW => ⟨rfl, ⟨by rw [ht]; exact hI.1, va_K.moved hW.alike hK, hI.2.1, NW.warm hW hN⟩, hI.2.2.F ht⟩) hI.2.2.2.2 dX8_year_143
                    · replace hres := (if_neg (bI_f c19)).symm.trans hres
                      refine lv_iconst (v := (-1)) hx hb dX8_year_117 (by decide) ?_
                      obtain ⟨rfl, rfl, rfl⟩ := pr3 hres
                      exact W.iret hx hb hr (fun t ht hW => ⟨rfl, ⟨by rw [ht]; exact hI.1, va_K.moved hW.alike hK, hI.2.1, NW.warm hW hN⟩, hI.2.2.F ht⟩) hI.2.2.2.2 dX8_year_118
              exact w91 80 ((60 * a1) + a3) (0 : Int32) (upd v 0 0) r _ _ hI hres ls (lv_sub hl [1, 0, 3, 7, 8] rfl)
            · replace hres := (if_pos c11).symm.trans hres
              refine lv_bipush (v := (-3)) hx hb dX8_year_77 (by decide) ?_
              obtain ⟨rfl, rfl, rfl⟩ := pr3 hres
              exact W.iret hx hb hr (fun t ht hW => ⟨rfl, ⟨by rw [ht]; exact hI.1, va_K.moved hW.alike hK, hI.2.1, NW.warm hW hN⟩, hI.2.2.F ht⟩) hI.2.2.2.2 dX8_year_79
          · replace hres := (if_neg c10).symm.trans hres
            refine lv_aload_n hx hb dX8_year_63 rfl (lv_at hl 1 rfl) ?_
            refine lv_iload hx hb dX8_year_64 (lv_at hl 0 rfl) ?_
            obtain ⟨y23, e23, hres⟩ := bd hres
            refine rw_v S (c_X8_fails l D cy A X A0 (upd v 0 0) r y9 y23.1 y23.2.1 y23.2.2 e23) (cwV 1 hts gX8_year_X8_fails rfl rfl rfl (by decide +kernel) ⟨Nat.le_of_ble_eq_true rfl, Nat.le_of_ble_eq_true rfl⟩) hI hK hN (ci := 7) rfl (atM_0) rfl rfl hl.1 rfl (Nat.le_of_ble_eq_true rfl) dX8_year_66 ⟨Nat.zero_le _, Nat.zero_le _⟩ (fun H locs hI => ?_)
            obtain ⟨rfl, rfl, rfl⟩ := pr3 hres
            exact W.iret hx hb hr (fun t ht hW => ⟨rfl, ⟨by rw [ht]; exact hI.1, va_K.moved hW.alike hK, hI.2.1, NW.warm hW hN⟩, hI.2.2.F ht⟩) hI.2.2.2.2 dX8_year_69
        · replace hres := (if_neg (bI_f c8)).symm.trans hres
          refine lv_bipush (v := (-2)) hx hb dX8_year_42 (by decide) ?_
          obtain ⟨rfl, rfl, rfl⟩ := pr3 hres
          exact W.iret hx hb hr (fun t ht hW => ⟨rfl, ⟨by rw [ht]; exact hI.1, va_K.moved hW.alike hK, hI.2.1, NW.warm hW hN⟩, hI.2.2.F ht⟩) hI.2.2.2.2 dX8_year_44
  · replace hres := (if_neg (bI_f c2)).symm.trans hres
    refine lv_iconst (v := (-1)) hx hb dX8_year_12 (by decide) ?_
    obtain ⟨rfl, rfl, rfl⟩ := pr3 hres
    exact W.iret hx hb hr (fun t ht hW => ⟨rfl, ⟨by rw [ht]; exact hI.1, va_K.moved hW.alike hK, hI.2.1, NW.warm hW hN⟩, hI.2.2.F ht⟩) hI.2.2.2.2 dX8_year_13
abbrev rm_X8_holds : Room := { frames := 1, cells := 0, slots := 0, locals := 21 }
def f_X8_holds_110 (a1 : Int32) (a2 : Int32) : Nat → Int32 → (Nat → Int32) → (Nat → Nat → Int32) → Option (Bool × ST)
  | 0, _, _, _ => none
  | n110 + 1, x4, v, r => (if (v 3) ≤ x4 then some (true, (v, r)) else if inR x4 4 = true then if inR x4 4 = true then (if (r 15 x4.toNatClampNeg) ≤ (r 3 x4.toNatClampNeg) then f_X8_holds_110 a1 a2 n110 (x4 + 1) v r else some (false, (v, r))) else none else none)
theorem f_X8_holds_110_s (a1 : Int32) (a2 : Int32) (n110 : Nat) (x4 : Int32) (v : (Nat → Int32)) (r : (Nat → Nat → Int32)) : f_X8_holds_110 a1 a2 (n110 + 1) x4 v r = (if (v 3) ≤ x4 then some (true, (v, r)) else if inR x4 4 = true then if inR x4 4 = true then (if (r 15 x4.toNatClampNeg) ≤ (r 3 x4.toNatClampNeg) then f_X8_holds_110 a1 a2 n110 (x4 + 1) v r else some (false, (v, r))) else none else none) := rfl
def f_X8_holds_36 (a1 : Int32) (a2 : Int32) : Nat → Int32 → Int32 → (Nat → Int32) → (Nat → Nat → Int32) → Option (Bool × ST)
  | 0, _, _, _, _ => none
  | n36 + 1, x3, x4, v, r => (if x4 < 0 then f_X8_holds_110 a1 a2 80 (0 : Int32) v r else if inR x4 6 = true then (if (f_X8_isOf a1 x4) = true then if (v 3) = 0 then none else if inR x4 6 = true then if (v 3) = 0 then none else if inR x4 6 = true then if inR ((va_up (va_up r 13 (upd (r 13) x4.toNatClampNeg (-9))) 13 (upd ((va_up r 13 (upd (r 13) x4.toNatClampNeg (-9))) 13) x4.toNatClampNeg (x3 - x3 / (v 3) * (v 3)))) 13 x4.toNatClampNeg) 4 = true then if inR x4 6 = true then if inR ((va_up (va_up r 13 (upd (r 13) x4.toNatClampNeg (-9))) 13 (upd ((va_up r 13 (upd (r 13) x4.toNatClampNeg (-9))) 13) x4.toNatClampNeg (x3 - x3 / (v 3) * (v 3)))) 13 x4.toNatClampNeg) 4 = true then f_X8_holds_36 a1 a2 n36 (x3 / (v 3)) (x4 + (-1)) v (va_up (va_up (va_up r 13 (upd (r 13) x4.toNatClampNeg (-9))) 13 (upd ((va_up r 13 (upd (r 13) x4.toNatClampNeg (-9))) 13) x4.toNatClampNeg (x3 - x3 / (v 3) * (v 3)))) 15 (upd ((va_up (va_up r 13 (upd (r 13) x4.toNatClampNeg (-9))) 13 (upd ((va_up r 13 (upd (r 13) x4.toNatClampNeg (-9))) 13) x4.toNatClampNeg (x3 - x3 / (v 3) * (v 3)))) 15) ((va_up (va_up r 13 (upd (r 13) x4.toNatClampNeg (-9))) 13 (upd ((va_up r 13 (upd (r 13) x4.toNatClampNeg (-9))) 13) x4.toNatClampNeg (x3 - x3 / (v 3) * (v 3)))) 13 x4.toNatClampNeg).toNatClampNeg (((va_up (va_up r 13 (upd (r 13) x4.toNatClampNeg (-9))) 13 (upd ((va_up r 13 (upd (r 13) x4.toNatClampNeg (-9))) 13) x4.toNatClampNeg (x3 - x3 / (v 3) * (v 3)))) 15 ((va_up (va_up r 13 (upd (r 13) x4.toNatClampNeg (-9))) 13 (upd ((va_up r 13 (upd (r 13) x4.toNatClampNeg (-9))) 13) x4.toNatClampNeg (x3 - x3 / (v 3) * (v 3)))) 13 x4.toNatClampNeg).toNatClampNeg) + ((va_up (va_up r 13 (upd (r 13) x4.toNatClampNeg (-9))) 13 (upd ((va_up r 13 (upd (r 13) x4.toNatClampNeg (-9))) 13) x4.toNatClampNeg (x3 - x3 / (v 3) * (v 3)))) 5 x4.toNatClampNeg)))) else none else none else none else none else none else f_X8_holds_36 a1 a2 n36 x3 (x4 + (-1)) v (va_up r 13 (upd (r 13) x4.toNatClampNeg (-9)))) else none)
theorem f_X8_holds_36_s (a1 : Int32) (a2 : Int32) (n36 : Nat) (x3 : Int32) (x4 : Int32) (v : (Nat → Int32)) (r : (Nat → Nat → Int32)) : f_X8_holds_36 a1 a2 (n36 + 1) x3 x4 v r = (if x4 < 0 then f_X8_holds_110 a1 a2 80 (0 : Int32) v r else if inR x4 6 = true then (if (f_X8_isOf a1 x4) = true then if (v 3) = 0 then none else if inR x4 6 = true then if (v 3) = 0 then none else if inR x4 6 = true then if inR ((va_up (va_up r 13 (upd (r 13) x4.toNatClampNeg (-9))) 13 (upd ((va_up r 13 (upd (r 13) x4.toNatClampNeg (-9))) 13) x4.toNatClampNeg (x3 - x3 / (v 3) * (v 3)))) 13 x4.toNatClampNeg) 4 = true then if inR x4 6 = true then if inR ((va_up (va_up r 13 (upd (r 13) x4.toNatClampNeg (-9))) 13 (upd ((va_up r 13 (upd (r 13) x4.toNatClampNeg (-9))) 13) x4.toNatClampNeg (x3 - x3 / (v 3) * (v 3)))) 13 x4.toNatClampNeg) 4 = true then f_X8_holds_36 a1 a2 n36 (x3 / (v 3)) (x4 + (-1)) v (va_up (va_up (va_up r 13 (upd (r 13) x4.toNatClampNeg (-9))) 13 (upd ((va_up r 13 (upd (r 13) x4.toNatClampNeg (-9))) 13) x4.toNatClampNeg (x3 - x3 / (v 3) * (v 3)))) 15 (upd ((va_up (va_up r 13 (upd (r 13) x4.toNatClampNeg (-9))) 13 (upd ((va_up r 13 (upd (r 13) x4.toNatClampNeg (-9))) 13) x4.toNatClampNeg (x3 - x3 / (v 3) * (v 3)))) 15) ((va_up (va_up r 13 (upd (r 13) x4.toNatClampNeg (-9))) 13 (upd ((va_up r 13 (upd (r 13) x4.toNatClampNeg (-9))) 13) x4.toNatClampNeg (x3 - x3 / (v 3) * (v 3)))) 13 x4.toNatClampNeg).toNatClampNeg (((va_up (va_up r 13 (upd (r 13) x4.toNatClampNeg (-9))) 13 (upd ((va_up r 13 (upd (r 13) x4.toNatClampNeg (-9))) 13) x4.toNatClampNeg (x3 - x3 / (v 3) * (v 3)))) 15 ((va_up (va_up r 13 (upd (r 13) x4.toNatClampNeg (-9))) 13 (upd ((va_up r 13 (upd (r 13) x4.toNatClampNeg (-9))) 13) x4.toNatClampNeg (x3 - x3 / (v 3) * (v 3)))) 13 x4.toNatClampNeg).toNatClampNeg) + ((va_up (va_up r 13 (upd (r 13) x4.toNatClampNeg (-9))) 13 (upd ((va_up r 13 (upd (r 13) x4.toNatClampNeg (-9))) 13) x4.toNatClampNeg (x3 - x3 / (v 3) * (v 3)))) 5 x4.toNatClampNeg)))) else none else none else none else none else none else f_X8_holds_36 a1 a2 n36 x3 (x4 + (-1)) v (va_up r 13 (upd (r 13) x4.toNatClampNeg (-9)))) else none) := rfl
def f_X8_holds_5 (a1 : Int32) (a2 : Int32) : Nat → Int32 → Int32 → (Nat → Int32) → (Nat → Nat → Int32) → Option (Bool × ST)
  | 0, _, _, _, _ => none
  | n5 + 1, x3, x4, v, r => (if (v 3) ≤ x4 then f_X8_holds_36 a1 a2 80 x3 ((v 4) - 1) v r else if inR x4 4 = true then f_X8_holds_5 a1 a2 n5 x3 (x4 + 1) v (va_up r 15 (upd (r 15) x4.toNatClampNeg 0)) else none)
theorem f_X8_holds_5_s (a1 : Int32) (a2 : Int32) (n5 : Nat) (x3 : Int32) (x4 : Int32) (v : (Nat → Int32)) (r : (Nat → Nat → Int32)) : f_X8_holds_5 a1 a2 (n5 + 1) x3 x4 v r = (if (v 3) ≤ x4 then f_X8_holds_36 a1 a2 80 x3 ((v 4) - 1) v r else if inR x4 4 = true then f_X8_holds_5 a1 a2 n5 x3 (x4 + 1) v (va_up r 15 (upd (r 15) x4.toNatClampNeg 0)) else none) := rfl
def f_X8_holds (v : Nat → Int32) (r : Nat → Nat → Int32) (a1 : Int32) (a2 : Int32) : Option (Bool × ST) := f_X8_holds_5 a1 a2 80 a2 (0 : Int32) v r
set_option maxHeartbeats 4000000 in
set_option maxRecDepth 100000 in
theorem c_X8_holds (l : Launch) (D : va_G) (cy : Nat → ClassId) (A : Nat → Nat) (X : va_W) (A0 : Nat → Prop) (v : Nat → Int32) (r : Nat → Nat → Int32) (a1 : Int32) (a2 : Int32) (res : Bool) (v2 : Nat → Int32) (r2 : Nat → Nat → Int32) (hres : f_X8_holds v r a1 a2 = some (res, (v2, r2))) : Met l yX8_holds wsX8_holds rm_X8_holds (va_Pc [.ref (A 0), .int a1, .int a2] (GW D (tyM cy) (pcM cy A v r ++ X) A0)) (QW (some (.int (bI res))) (GW D (tyM cy) (pcM cy A v2 r2 ++ X) A0) A0) 0 0 A0 := by
  refine Met.ofW (cc := cX8_holds) (maxL := 5) (ret := (some .boolean)) (by decide) rfl ?_
  intro p e s m args below meth c s₁ B hml hv
  obtain ⟨hargs, hP, hK, hD0, hN⟩ := hv
  have hx := B.exec
  have hb := B.bytes
  have hr := B.returns
  have hts := atoms_spec (ws := wsX8_holds) B.pre
  have hown : s.vm.findClass RX8 = some m.cls := findClass_of_methodNamed B.named
  have hlocks := B.notSynchronized
  have hI : IW D (pcM cy A v r ++ X) A0 s.heap s.heap [] := ⟨hP, hD0, va_S.rf⟩
  have S : CallFix p m c cX8_holds 5 s args wsX8_holds RX8 := ⟨hx, hb, hml, hown, hts⟩
  have in8 : ∀ w ∈ wsX80, w ∈ wsX8_holds := fun _ h => List.mem_cons_of_mem _ (List.mem_append_right _ h)
  have hl := lv_entry ([.ref (A 0), .int a1, .int a2]) (n := 5) (Nat.le_of_ble_eq_true rfl)
  have hE : entryFrame m args 5 = F0 m 0 ((lg_sl ([.ref (A 0), .int a1, .int a2]) ++ List.replicate (5 - (lg_sl ([.ref (A 0), .int a1, .int a2])).length) Slot.unset).toArray) [] := by rw [hargs]; exact lg_entry_eq m [.ref (A 0), .int a1, .int a2] 5
  rw [hE]
  generalize (lg_sl ([.ref (A 0), .int a1, .int a2]) ++ List.replicate (5 - (lg_sl ([.ref (A 0), .int a1, .int a2])).length) Slot.unset).toArray = ls at hl ⊢
  have hl : lv_has ls 5 [(0, .ref (A 0)), (1, .int a1), (2, .int a2)] := hl
  unfold f_X8_holds at hres
  refine lv_iload_n hx hb dX8_holds_0 rfl (lv_at hl 2 rfl) ?_
  refine lv_istore_n (lv' := [(3, .int a2), (0, .ref (A 0)), (1, .int a1), (2, .int a2)]) hx hb dX8_holds_1 rfl hl (by decide) rfl (fun ls hl => ?_)
  refine lv_iconst (v := 0) hx hb dX8_holds_2 (by decide) ?_
  refine lv_istore (lv' := [(4, .int 0), (3, .int a2), (0, .ref (A 0)), (1, .int a1), (2, .int a2)]) hx hb dX8_holds_3 hl (by decide) rfl (fun ls hl => ?_)
  have w5 : ∀ (n5 : Nat) (x3 : Int32) (x4 : Int32) (v : (Nat → Int32)) (r : (Nat → Nat → Int32)), ∀ (H : Heap) (locs : List Loc), IW D (pcM cy A v r ++ X) A0 s.heap H locs → f_X8_holds_5 a1 a2 n5 x3 x4 v r = some (res, (v2, r2)) → ∀ ls : Array Slot, lv_has ls 5 [(3, .int x3), (4, .int x4), (0, .ref (A 0)), (1, .int a1)] → W p l e (headSpec wsX8_holds rm_X8_holds).room s m args below meth c H locs 0 0 (MQ below (QW (some (.int (bI res))) (GW D (tyM cy) (pcM cy A v2 r2 ++ X) A0) A0) args s 0 0 A0) (F0 m 5 ls []) := by
    intro n5
    induction n5 with
    | zero =>
      intro x3 x4 v r H locs hI hres
      have hres : (none : Option (Bool × ST)) = some (res, (v2, r2)) := hres
      cases hres
    | succ n5 ih5 =>
      intro x3 x4 v r H locs hI hres ls hl
      replace hres := (f_X8_holds_5_s a1 a2 n5 x3 x4 v r).symm.trans hres
      refine lv_iload hx hb dX8_holds_5 (lv_at hl 1 rfl) ?_
      refine lv_aload_n hx hb dX8_holds_7 rfl (lv_at hl 2 rfl) ?_
      refine gM_rooms hx hb hts in8 hown hK hI (hts (.fieldLink RX8 77 "TrickHouseModel" "rooms" "I") (by decide +kernel)) dX8_holds_8 ?_
      refine lv_icmp_ge (tgt := 28) hx hb dX8_holds_11 (by decide) (fun c1 => ?_) (fun c1 => ?_)
      · replace hres := (if_pos c1).symm.trans hres
        refine lv_aload_n hx hb dX8_holds_28 rfl (lv_at hl 2 rfl) ?_
        refine gM_articles hx hb hts in8 hown hK hI (hts (.fieldLink RX8 74 "TrickHouseModel" "articles" "I") (by decide +kernel)) dX8_holds_29 ?_
        refine lv_iconst (v := 1) hx hb dX8_holds_32 (by decide) ?_
        refine lv_isub hx hb dX8_holds_33 ?_
        refine lv_istore (lv' := [(4, .int ((v 4) - 1)), (3, .int x3), (0, .ref (A 0)), (1, .int a1)]) hx hb dX8_holds_34 hl (by decide) rfl (fun ls hl => ?_)
        have w36 : ∀ (n36 : Nat) (x3 : Int32) (x4 : Int32) (v : (Nat → Int32)) (r : (Nat → Nat → Int32)), ∀ (H : Heap) (locs : List Loc), IW D (pcM cy A v r ++ X) A0 s.heap H locs → f_X8_holds_36 a1 a2 n36 x3 x4 v r = some (res, (v2, r2)) → ∀ ls : Array Slot, lv_has ls 5 [(3, .int x3), (4, .int x4), (0, .ref (A 0)), (1, .int a1)] → W p l e (headSpec wsX8_holds rm_X8_holds).room s m args below meth c H locs 0 0 (MQ below (QW (some (.int (bI res))) (GW D (tyM cy) (pcM cy A v2 r2 ++ X) A0) A0) args s 0 0 A0) (F0 m 36 ls []) := by
          intro n36
          induction n36 with
          | zero =>
            intro x3 x4 v r H locs hI hres
            have hres : (none : Option (Bool × ST)) = some (res, (v2, r2)) := hres
            cases hres
          | succ n36 ih36 =>
            intro x3 x4 v r H locs hI hres ls hl
            replace hres := (f_X8_holds_36_s a1 a2 n36 x3 x4 v r).symm.trans hres
            refine lv_iload hx hb dX8_holds_36 (lv_at hl 1 rfl) ?_
            refine lv_if_lt (tgt := 107) hx hb dX8_holds_38 (by decide) (fun c2 => ?_) (fun c2 => ?_)
            · replace hres := (if_pos c2).symm.trans hres
              refine lv_iconst (v := 0) hx hb dX8_holds_107 (by decide) ?_
              refine lv_istore (lv' := [(4, .int 0), (3, .int x3), (0, .ref (A 0)), (1, .int a1)]) hx hb dX8_holds_108 hl (by decide) rfl (fun ls hl => ?_)
              have w110 : ∀ (n110 : Nat) (x4 : Int32) (v : (Nat → Int32)) (r : (Nat → Nat → Int32)), ∀ (H : Heap) (locs : List Loc), IW D (pcM cy A v r ++ X) A0 s.heap H locs → f_X8_holds_110 a1 a2 n110 x4 v r = some (res, (v2, r2)) → ∀ ls : Array Slot, lv_has ls 5 [(4, .int x4), (0, .ref (A 0))] → W p l e (headSpec wsX8_holds rm_X8_holds).room s m args below meth c H locs 0 0 (MQ below (QW (some (.int (bI res))) (GW D (tyM cy) (pcM cy A v2 r2 ++ X) A0) A0) args s 0 0 A0) (F0 m 110 ls []) := by
                intro n110
                induction n110 with
                | zero =>
                  intro x4 v r H locs hI hres
                  have hres : (none : Option (Bool × ST)) = some (res, (v2, r2)) := hres
                  cases hres
                | succ n110 ih110 =>
                  intro x4 v r H locs hI hres ls hl
                  replace hres := (f_X8_holds_110_s a1 a2 n110 x4 v r).symm.trans hres
                  refine lv_iload hx hb dX8_holds_110 (lv_at hl 0 rfl) ?_
                  refine lv_aload_n hx hb dX8_holds_112 rfl (lv_at hl 1 rfl) ?_
                  refine gM_rooms hx hb hts in8 hown hK hI (hts (.fieldLink RX8 77 "TrickHouseModel" "rooms" "I") (by decide +kernel)) dX8_holds_113 ?_
                  refine lv_icmp_ge (tgt := 144) hx hb dX8_holds_116 (by decide) (fun c3 => ?_) (fun c3 => ?_)
                  · replace hres := (if_pos c3).symm.trans hres
                    refine lv_iconst (v := 1) hx hb dX8_holds_144 (by decide) ?_
                    obtain ⟨rfl, rfl, rfl⟩ := pr3 hres
                    exact W.zret hx hb hr rfl (fun t ht hW => ⟨rfl, ⟨by rw [ht]; exact hI.1, va_K.moved hW.alike hK, hI.2.1, NW.warm hW hN⟩, hI.2.2.F ht⟩) hI.2.2.2.2 dX8_holds_145
                  · replace hres := (if_neg c3).symm.trans hres
                    refine lv_aload_n hx hb dX8_holds_119 rfl (lv_at hl 1 rfl) ?_
                    refine gM_filled hx hb hts in8 hown hK hI (hts (.fieldLink RX8 55 "TrickHouseModel" "filled" "[I") (by decide +kernel)) dX8_holds_120 ?_
                    refine lv_iload hx hb dX8_holds_123 (lv_at hl 0 rfl) ?_
                    obtain ⟨g4, hres⟩ := gd hres
                    refine th_ild hx hb hK hI 16 0 rfl rfl g4 dX8_holds_125 ?_
                    refine lv_aload_n hx hb dX8_holds_126 rfl (lv_at hl 1 rfl) ?_
                    refine gM_spaceOf hx hb hts in8 hown hK hI (hts (.fieldLink RX8 19 "TrickHouseModel" "spaceOf" "[I") (by decide +kernel)) dX8_holds_127 ?_
                    refine lv_iload hx hb dX8_holds_130 (lv_at hl 0 rfl) ?_
                    obtain ⟨g5, hres⟩ := gd hres
                    refine th_ild hx hb hK hI 4 0 rfl rfl g5 dX8_holds_132 ?_
                    refine lv_icmp_le (tgt := 138) hx hb dX8_holds_133 (by decide) (fun c6 => ?_) (fun c6 => ?_)
                    · replace hres := (if_pos c6).symm.trans hres
                      refine lv_iinc (v := (x4 + 1)) (lv' := [(4, .int (x4 + 1)), (0, .ref (A 0))]) hx hb dX8_holds_138 hl (k := 0) rfl rfl (by decide) rfl (fun ls hl => ?_)
                      refine lv_goto (tgt := 110) hx hb dX8_holds_141 (by decide) ?_
                      exact ih110 (x4 + 1) v r _ _ hI hres ls (lv_sub hl [0, 1] rfl)
                    · replace hres := (if_neg c6).symm.trans hres
                      refine lv_iconst (v := 0) hx hb dX8_holds_136 (by decide) ?_
                      obtain ⟨rfl, rfl, rfl⟩ := pr3 hres
                      exact W.zret hx hb hr rfl (fun t ht hW => ⟨rfl, ⟨by rw [ht]; exact hI.1, va_K.moved hW.alike hK, hI.2.1, NW.warm hW hN⟩, hI.2.2.F ht⟩) hI.2.2.2.2 dX8_holds_137
              exact w110 80 (0 : Int32) v r _ _ hI hres ls (lv_sub hl [0, 2] rfl)
            · replace hres := (if_neg c2).symm.trans hres
              refine lv_aload_n hx hb dX8_holds_41 rfl (lv_at hl 2 rfl) ?_
              refine gM_room hx hb hts in8 hown hK hI (hts (.fieldLink RX8 49 "TrickHouseModel" "room" "[I") (by decide +kernel)) dX8_holds_42 ?_
              refine lv_iload hx hb dX8_holds_45 (lv_at hl 1 rfl) ?_
              refine lv_bipush (v := (-9)) hx hb dX8_holds_47 (by decide) ?_
              obtain ⟨g7, hres⟩ := gd hres
              refine th_ist hx hb hK hI 14 0 rfl rfl g7 stM_r14 dX8_holds_49 (fun H locs hI => ?_)
              refine lv_iload_n hx hb dX8_holds_50 rfl (lv_at hl 3 rfl) ?_
              refine lv_iload hx hb dX8_holds_51 (lv_at hl 1 rfl) ?_
              refine pu_s S (c_X8_isOf l a1 x4 _ rfl) (va_cwS 2 hts gX8_holds_X8_isOf rfl rfl rfl (by decide +kernel) ⟨Nat.le_of_ble_eq_true rfl, Nat.le_of_ble_eq_true rfl⟩) hN rfl hl.1 rfl (Nat.le_of_ble_eq_true rfl) dX8_holds_53 ⟨Nat.zero_le _, Nat.zero_le _⟩ ?_
              refine lv_if_eq (tgt := 101) hx hb dX8_holds_56 (by decide) (fun c9 => ?_) (fun c9 => ?_)
              · replace hres := (if_neg (bI_f c9)).symm.trans hres
                refine lv_iinc (v := (x4 + (-1))) (lv' := [(4, .int (x4 + (-1))), (3, .int x3), (0, .ref (A 0)), (1, .int a1)]) hx hb dX8_holds_101 hl (k := 1) rfl rfl (by decide) rfl (fun ls hl => ?_)
                refine lv_goto (tgt := 36) hx hb dX8_holds_104 (by decide) ?_
                exact ih36 x3 (x4 + (-1)) v (va_up r 13 (upd (r 13) x4.toNatClampNeg (-9))) _ _ hI hres ls (lv_sub hl [1, 0, 2, 3] rfl)
              · replace hres := (if_pos (bI_t c9)).symm.trans hres
                refine lv_aload_n hx hb dX8_holds_59 rfl (lv_at hl 2 rfl) ?_
                refine gM_room hx hb hts in8 hown hK hI (hts (.fieldLink RX8 49 "TrickHouseModel" "room" "[I") (by decide +kernel)) dX8_holds_60 ?_
                refine lv_iload hx hb dX8_holds_63 (lv_at hl 1 rfl) ?_
                refine lv_iload_n hx hb dX8_holds_65 rfl (lv_at hl 0 rfl) ?_
                refine lv_aload_n hx hb dX8_holds_66 rfl (lv_at hl 2 rfl) ?_
                refine gM_rooms hx hb hts in8 hown hK hI (hts (.fieldLink RX8 77 "TrickHouseModel" "rooms" "I") (by decide +kernel)) dX8_holds_67 ?_
                obtain ⟨g10, hres⟩ := gn hres
                refine lv_irem hx hb dX8_holds_70 g10 ?_
                obtain ⟨g11, hres⟩ := gd hres
                refine th_ist hx hb hK hI 14 0 rfl rfl g11 stM_r14 dX8_holds_71 (fun H locs hI => ?_)
                refine lv_iload_n hx hb dX8_holds_72 rfl (lv_at hl 0 rfl) ?_
                refine lv_aload_n hx hb dX8_holds_73 rfl (lv_at hl 2 rfl) ?_
                refine gM_rooms hx hb hts in8 hown hK hI (hts (.fieldLink RX8 77 "TrickHouseModel" "rooms" "I") (by decide +kernel)) dX8_holds_74 ?_
                obtain ⟨g12, hres⟩ := gn hres
                refine lv_idiv hx hb dX8_holds_77 g12 ?_
                refine lv_istore_n (lv' := [(3, .int (x3 / (v 3))), (4, .int x4), (0, .ref (A 0)), (1, .int a1)]) hx hb dX8_holds_78 rfl hl (by decide) rfl (fun ls hl => ?_)
                refine lv_aload_n hx hb dX8_holds_79 rfl (lv_at hl 2 rfl) ?_
                refine gM_filled hx hb hts in8 hown hK hI (hts (.fieldLink RX8 55 "TrickHouseModel" "filled" "[I") (by decide +kernel)) dX8_holds_80 ?_
                refine lv_aload_n hx hb dX8_holds_83 rfl (lv_at hl 2 rfl) ?_
                refine gM_room hx hb hts in8 hown hK hI (hts (.fieldLink RX8 49 "TrickHouseModel" "room" "[I") (by decide +kernel)) dX8_holds_84 ?_
                refine lv_iload hx hb dX8_holds_87 (lv_at hl 1 rfl) ?_
                obtain ⟨g13, hres⟩ := gd hres
                refine th_ild hx hb hK hI 14 0 rfl rfl g13 dX8_holds_89 ?_
                refine lv_dup2_11 hx hb dX8_holds_90 rfl rfl ?_
                obtain ⟨g14, hres⟩ := gd hres
                refine th_ild hx hb hK hI 16 0 rfl rfl g14 dX8_holds_91 ?_
                refine lv_aload_n hx hb dX8_holds_92 rfl (lv_at hl 2 rfl) ?_
                refine gM_bulk hx hb hts in8 hown hK hI (hts (.fieldLink RX8 25 "TrickHouseModel" "bulk" "[I") (by decide +kernel)) dX8_holds_93 ?_
                refine lv_iload hx hb dX8_holds_96 (lv_at hl 1 rfl) ?_
                obtain ⟨g15, hres⟩ := gd hres
                refine th_ild hx hb hK hI 6 0 rfl rfl g15 dX8_holds_98 ?_
                refine lv_iadd hx hb dX8_holds_99 ?_
                obtain ⟨g16, hres⟩ := gd hres
                refine th_ist hx hb hK hI 16 0 rfl rfl g16 stM_r16 dX8_holds_100 (fun H locs hI => ?_)
                refine lv_iinc (v := (x4 + (-1))) (lv' := [(4, .int (x4 + (-1))), (3, .int (x3 / (v 3))), (0, .ref (A 0)), (1, .int a1)]) hx hb dX8_holds_101 hl (k := 1) rfl rfl (by decide) rfl (fun ls hl => ?_)
                refine lv_goto (tgt := 36) hx hb dX8_holds_104 (by decide) ?_
                exact ih36 (x3 / (v 3)) (x4 + (-1)) v (va_up (va_up (va_up r 13 (upd (r 13) x4.toNatClampNeg (-9))) 13 (upd ((va_up r 13 (upd (r 13) x4.toNatClampNeg (-9))) 13) x4.toNatClampNeg (x3 - x3 / (v 3) * (v 3)))) 15 (upd ((va_up (va_up r 13 (upd (r 13) x4.toNatClampNeg (-9))) 13 (upd ((va_up r 13 (upd (r 13) x4.toNatClampNeg (-9))) 13) x4.toNatClampNeg (x3 - x3 / (v 3) * (v 3)))) 15) ((va_up (va_up r 13 (upd (r 13) x4.toNatClampNeg (-9))) 13 (upd ((va_up r 13 (upd (r 13) x4.toNatClampNeg (-9))) 13) x4.toNatClampNeg (x3 - x3 / (v 3) * (v 3)))) 13 x4.toNatClampNeg).toNatClampNeg (((va_up (va_up r 13 (upd (r 13) x4.toNatClampNeg (-9))) 13 (upd ((va_up r 13 (upd (r 13) x4.toNatClampNeg (-9))) 13) x4.toNatClampNeg (x3 - x3 / (v 3) * (v 3)))) 15 ((va_up (va_up r 13 (upd (r 13) x4.toNatClampNeg (-9))) 13 (upd ((va_up r 13 (upd (r 13) x4.toNatClampNeg (-9))) 13) x4.toNatClampNeg (x3 - x3 / (v 3) * (v 3)))) 13 x4.toNatClampNeg).toNatClampNeg) + ((va_up (va_up r 13 (upd (r 13) x4.toNatClampNeg (-9))) 13 (upd ((va_up r 13 (upd (r 13) x4.toNatClampNeg (-9))) 13) x4.toNatClampNeg (x3 - x3 / (v 3) * (v 3)))) 5 x4.toNatClampNeg)))) _ _ hI hres ls (lv_sub hl [1, 0, 2, 3] rfl)
        exact w36 80 x3 ((v 4) - 1) v r _ _ hI hres ls (lv_sub hl [1, 0, 2, 3] rfl)
      · replace hres := (if_neg c1).symm.trans hres
        refine lv_aload_n hx hb dX8_holds_14 rfl (lv_at hl 2 rfl) ?_
        refine gM_filled hx hb hts in8 hown hK hI (hts (.fieldLink RX8 55 "TrickHouseModel" "filled" "[I") (by decide +kernel)) dX8_holds_15 ?_
        refine lv_iload hx hb dX8_holds_18 (lv_at hl 1 rfl) ?_
        refine lv_iconst (v := 0) hx hb dX8_holds_20 (by decide) ?_
        obtain ⟨g17, hres⟩ := gd hres
        refine th_ist hx hb hK hI 16 0 rfl rfl g17 stM_r16 dX8_holds_21 (fun H locs hI => ?_)
        refine lv_iinc (v := (x4 + 1)) (lv' := [(4, .int (x4 + 1)), (3, .int x3), (0, .ref (A 0)), (1, .int a1)]) hx hb dX8_holds_22 hl (k := 1) rfl rfl (by decide) rfl (fun ls hl => ?_)
        refine lv_goto (tgt := 5) hx hb dX8_holds_25 (by decide) ?_
        exact ih5 x3 (x4 + 1) v (va_up r 15 (upd (r 15) x4.toNatClampNeg 0)) _ _ hI hres ls (lv_sub hl [1, 0, 2, 3] rfl)
  exact w5 80 a2 (0 : Int32) v r _ _ hI hres ls (lv_sub hl [1, 0, 2, 3] rfl)
abbrev rm_X8_findPacks : Room := { frames := 2, cells := 0, slots := 0, locals := 45 }
def f_X8_findPacks_58 (K31 : Int32 → Int32 → (Nat → Int32) → (Nat → Nat → Int32) → Option ST) (a1 : Int32) : Nat → Int32 → Int32 → Int32 → (Nat → Int32) → (Nat → Nat → Int32) → Option ST
  | 0, _, _, _, _, _ => none
  | n58 + 1, x2, x3, x4, v, r => (if (v 4) ≤ x4 then K31 x2 (x3 + 1) v r else (if (v 12) = 1 then if inR x4 6 = true then if inR x4 6 = true then f_X8_findPacks_58 K31 a1 n58 x2 x3 (x4 + 1) v (va_up r 14 (upd (r 14) x4.toNatClampNeg (r 13 x4.toNatClampNeg))) else none else none else K31 x2 (x3 + 1) v r))
theorem f_X8_findPacks_58_s (K31 : Int32 → Int32 → (Nat → Int32) → (Nat → Nat → Int32) → Option ST) (a1 : Int32) (n58 : Nat) (x2 : Int32) (x3 : Int32) (x4 : Int32) (v : (Nat → Int32)) (r : (Nat → Nat → Int32)) : f_X8_findPacks_58 K31 a1 (n58 + 1) x2 x3 x4 v r = (if (v 4) ≤ x4 then K31 x2 (x3 + 1) v r else (if (v 12) = 1 then if inR x4 6 = true then if inR x4 6 = true then f_X8_findPacks_58 K31 a1 n58 x2 x3 (x4 + 1) v (va_up r 14 (upd (r 14) x4.toNatClampNeg (r 13 x4.toNatClampNeg))) else none else none else K31 x2 (x3 + 1) v r)) := rfl
def f_X8_findPacks_31 (a1 : Int32) : Nat → Int32 → Int32 → (Nat → Int32) → (Nat → Nat → Int32) → Option ST
  | 0, _, _, _, _ => none
  | n31 + 1, x2, x3, v, r => (if x2 ≤ x3 then some ((v, r)) else (f_X8_holds v r a1 x3).bind (fun y4 => (if y4.1 = true then f_X8_findPacks_58 (fun z0 z1 z2 z3 => f_X8_findPacks_31 a1 n31 z0 z1 z2 z3) a1 80 x2 x3 (0 : Int32) (upd y4.2.1 12 ((y4.2.1 12) + 1)) y4.2.2 else f_X8_findPacks_31 a1 n31 x2 (x3 + 1) y4.2.1 y4.2.2)))
theorem f_X8_findPacks_31_s (a1 : Int32) (n31 : Nat) (x2 : Int32) (x3 : Int32) (v : (Nat → Int32)) (r : (Nat → Nat → Int32)) : f_X8_findPacks_31 a1 (n31 + 1) x2 x3 v r = (if x2 ≤ x3 then some ((v, r)) else (f_X8_holds v r a1 x3).bind (fun y4 => (if y4.1 = true then f_X8_findPacks_58 (fun z0 z1 z2 z3 => f_X8_findPacks_31 a1 n31 z0 z1 z2 z3) a1 80 x2 x3 (0 : Int32) (upd y4.2.1 12 ((y4.2.1 12) + 1)) y4.2.2 else f_X8_findPacks_31 a1 n31 x2 (x3 + 1) y4.2.1 y4.2.2))) := rfl
def f_X8_findPacks_12 (a1 : Int32) : Nat → Int32 → Int32 → (Nat → Int32) → (Nat → Nat → Int32) → Option ST
  | 0, _, _, _, _ => none
  | n12 + 1, x2, x3, v, r => (if x3 ≤ 0 then f_X8_findPacks_31 a1 4200 x2 (0 : Int32) v r else f_X8_findPacks_12 a1 n12 (x2 * (v 3)) (x3 + (-1)) v r)
theorem f_X8_findPacks_12_s (a1 : Int32) (n12 : Nat) (x2 : Int32) (x3 : Int32) (v : (Nat → Int32)) (r : (Nat → Nat → Int32)) : f_X8_findPacks_12 a1 (n12 + 1) x2 x3 v r = (if x3 ≤ 0 then f_X8_findPacks_31 a1 4200 x2 (0 : Int32) v r else f_X8_findPacks_12 a1 n12 (x2 * (v 3)) (x3 + (-1)) v r) := rfl
def f_X8_findPacks (v : Nat → Int32) (r : Nat → Nat → Int32) (a1 : Int32) : Option ST := (f_X8_size a1).bind (fun y1 => f_X8_findPacks_12 a1 80 (1 : Int32) y1 (upd v 12 0) r)
set_option maxHeartbeats 4000000 in
set_option maxRecDepth 100000 in
theorem c_X8_findPacks (l : Launch) (D : va_G) (cy : Nat → ClassId) (A : Nat → Nat) (X : va_W) (A0 : Nat → Prop) (v : Nat → Int32) (r : Nat → Nat → Int32) (a1 : Int32) (v2 : Nat → Int32) (r2 : Nat → Nat → Int32) (hres : f_X8_findPacks v r a1 = some (v2, r2)) : Met l yX8_findPacks wsX8_findPacks rm_X8_findPacks (va_Pc [.ref (A 0), .int a1] (GW D (tyM cy) (pcM cy A v r ++ X) A0)) (QW none (GW D (tyM cy) (pcM cy A v2 r2 ++ X) A0) A0) 0 0 A0 := by
  refine Met.ofW (cc := cX8_findPacks) (maxL := 5) (ret := none) (by decide) rfl ?_
  intro p e s m args below meth c s₁ B hml hv
  obtain ⟨hargs, hP, hK, hD0, hN⟩ := hv
  have hx := B.exec
  have hb := B.bytes
  have hr := B.returns
  have hts := atoms_spec (ws := wsX8_findPacks) B.pre
  have hown : s.vm.findClass RX8 = some m.cls := findClass_of_methodNamed B.named
  have hlocks := B.notSynchronized
  have hI : IW D (pcM cy A v r ++ X) A0 s.heap s.heap [] := ⟨hP, hD0, va_S.rf⟩
  have S : CallFix p m c cX8_findPacks 5 s args wsX8_findPacks RX8 := ⟨hx, hb, hml, hown, hts⟩
  have in8 : ∀ w ∈ wsX80, w ∈ wsX8_findPacks := fun _ h => List.mem_cons_of_mem _ (List.mem_append_right _ h)
  have hl := lv_entry ([.ref (A 0), .int a1]) (n := 5) (Nat.le_of_ble_eq_true rfl)
  have hE : entryFrame m args 5 = F0 m 0 ((lg_sl ([.ref (A 0), .int a1]) ++ List.replicate (5 - (lg_sl ([.ref (A 0), .int a1])).length) Slot.unset).toArray) [] := by rw [hargs]; exact lg_entry_eq m [.ref (A 0), .int a1] 5
  rw [hE]
  generalize (lg_sl ([.ref (A 0), .int a1]) ++ List.replicate (5 - (lg_sl ([.ref (A 0), .int a1])).length) Slot.unset).toArray = ls at hl ⊢
  have hl : lv_has ls 5 [(0, .ref (A 0)), (1, .int a1)] := hl
  unfold f_X8_findPacks at hres
  refine lv_aload_n hx hb dX8_findPacks_0 rfl (lv_at hl 0 rfl) ?_
  refine lv_iconst (v := 0) hx hb dX8_findPacks_1 (by decide) ?_
  refine pM_packed hx hb hts in8 hown hK hI (hts (.fieldLink RX8 185 "TrickHouseModel" "packed" "I") (by decide +kernel)) dX8_findPacks_2 (fun H locs hI => ?_)
  refine lv_iconst (v := 1) hx hb dX8_findPacks_5 (by decide) ?_
  refine lv_istore_n (lv' := [(2, .int 1), (0, .ref (A 0)), (1, .int a1)]) hx hb dX8_findPacks_6 rfl hl (by decide) rfl (fun ls hl => ?_)
  refine lv_iload_n hx hb dX8_findPacks_7 rfl (lv_at hl 2 rfl) ?_
  obtain ⟨y1, e1, hres⟩ := bd hres
  refine pu_s S (c_X8_size l a1 y1 e1) (va_cwS 1 hts gX8_findPacks_X8_size rfl rfl rfl (by decide +kernel) ⟨Nat.le_of_ble_eq_true rfl, Nat.le_of_ble_eq_true rfl⟩) hN rfl hl.1 rfl (Nat.le_of_ble_eq_true rfl) dX8_findPacks_8 ⟨Nat.zero_le _, Nat.zero_le _⟩ ?_
  refine lv_istore_n (lv' := [(3, .int y1), (2, .int 1), (0, .ref (A 0)), (1, .int a1)]) hx hb dX8_findPacks_11 rfl hl (by decide) rfl (fun ls hl => ?_)
  have w12 : ∀ (n12 : Nat) (x2 : Int32) (x3 : Int32) (v : (Nat → Int32)) (r : (Nat → Nat → Int32)), ∀ (H : Heap) (locs : List Loc), IW D (pcM cy A v r ++ X) A0 s.heap H locs → f_X8_findPacks_12 a1 n12 x2 x3 v r = some (v2, r2) → ∀ ls : Array Slot, lv_has ls 5 [(2, .int x2), (3, .int x3), (0, .ref (A 0)), (1, .int a1)] → W p l e (headSpec wsX8_findPacks rm_X8_findPacks).room s m args below meth c H locs 0 0 (MQ below (QW none (GW D (tyM cy) (pcM cy A v2 r2 ++ X) A0) A0) args s 0 0 A0) (F0 m 12 ls []) := by
    intro n12
    induction n12 with
    | zero =>
      intro x2 x3 v r H locs hI hres
      have hres : (none : Option ST) = some (v2, r2) := hres
      cases hres
    | succ n12 ih12 =>
      intro x2 x3 v r H locs hI hres ls hl
      replace hres := (f_X8_findPacks_12_s a1 n12 x2 x3 v r).symm.trans hres
      refine lv_iload_n hx hb dX8_findPacks_12 rfl (lv_at hl 1 rfl) ?_
      refine lv_if_le (tgt := 29) hx hb dX8_findPacks_13 (by decide) (fun c2 => ?_) (fun c2 => ?_)
      · replace hres := (if_pos c2).symm.trans hres
        refine lv_iconst (v := 0) hx hb dX8_findPacks_29 (by decide) ?_
        refine lv_istore_n (lv' := [(3, .int 0), (2, .int x2), (0, .ref (A 0)), (1, .int a1)]) hx hb dX8_findPacks_30 rfl hl (by decide) rfl (fun ls hl => ?_)
        have w31 : ∀ (n31 : Nat) (x2 : Int32) (x3 : Int32) (v : (Nat → Int32)) (r : (Nat → Nat → Int32)), ∀ (H : Heap) (locs : List Loc), IW D (pcM cy A v r ++ X) A0 s.heap H locs → f_X8_findPacks_31 a1 n31 x2 x3 v r = some (v2, r2) → ∀ ls : Array Slot, lv_has ls 5 [(2, .int x2), (3, .int x3), (0, .ref (A 0)), (1, .int a1)] → W p l e (headSpec wsX8_findPacks rm_X8_findPacks).room s m args below meth c H locs 0 0 (MQ below (QW none (GW D (tyM cy) (pcM cy A v2 r2 ++ X) A0) A0) args s 0 0 A0) (F0 m 31 ls []) := by
          intro n31
          induction n31 with
          | zero =>
            intro x2 x3 v r H locs hI hres
            have hres : (none : Option ST) = some (v2, r2) := hres
            cases hres
          | succ n31 ih31 =>
            intro x2 x3 v r H locs hI hres ls hl
            replace hres := (f_X8_findPacks_31_s a1 n31 x2 x3 v r).symm.trans hres
            refine lv_iload_n hx hb dX8_findPacks_31 rfl (lv_at hl 1 rfl) ?_
            refine lv_iload_n hx hb dX8_findPacks_32 rfl (lv_at hl 0 rfl) ?_
            refine lv_icmp_ge (tgt := 101) hx hb dX8_findPacks_33 (by decide) (fun c3 => ?_) (fun c3 => ?_)
            · replace hres := (if_pos c3).symm.trans hres
              obtain ⟨rfl, rfl⟩ := pr2 hres
              exact W.vret hx hb hr (fun t ht hW => ⟨rfl, ⟨by rw [ht]; exact hI.1, va_K.moved hW.alike hK, hI.2.1, NW.warm hW hN⟩, hI.2.2.F ht⟩) hI.2.2.2.2 dX8_findPacks_101
            · replace hres := (if_neg c3).symm.trans hres
              refine lv_aload_n hx hb dX8_findPacks_36 rfl (lv_at hl 2 rfl) ?_
              refine lv_iload_n hx hb dX8_findPacks_37 rfl (lv_at hl 3 rfl) ?_
              refine lv_iload_n hx hb dX8_findPacks_38 rfl (lv_at hl 1 rfl) ?_
              obtain ⟨y4, e4, hres⟩ := bd hres
              refine rw_v S (c_X8_holds l D cy A X A0 v r a1 x3 y4.1 y4.2.1 y4.2.2 e4) (cwV 2 hts gX8_findPacks_X8_holds rfl rfl rfl (by decide +kernel) ⟨Nat.le_of_ble_eq_true rfl, Nat.le_of_ble_eq_true rfl⟩) hI hK hN (ci := 7) rfl (atM_0) rfl rfl hl.1 rfl (Nat.le_of_ble_eq_true rfl) dX8_findPacks_39 ⟨Nat.zero_le _, Nat.zero_le _⟩ (fun H locs hI => ?_)
              refine lv_if_eq (tgt := 95) hx hb dX8_findPacks_42 (by decide) (fun c5 => ?_) (fun c5 => ?_)
              · replace hres := (if_neg (bI_f c5)).symm.trans hres
                refine lv_iinc (v := (x3 + 1)) (lv' := [(3, .int (x3 + 1)), (2, .int x2), (0, .ref (A 0)), (1, .int a1)]) hx hb dX8_findPacks_95 hl (k := 1) rfl rfl (by decide) rfl (fun ls hl => ?_)
                refine lv_goto (tgt := 31) hx hb dX8_findPacks_98 (by decide) ?_
                exact ih31 x2 (x3 + 1) y4.2.1 y4.2.2 _ _ hI hres ls (lv_sub hl [1, 0, 2, 3] rfl)
              · replace hres := (if_pos (bI_t c5)).symm.trans hres
                refine lv_aload_n hx hb dX8_findPacks_45 rfl (lv_at hl 2 rfl) ?_
                refine lv_dup hx hb dX8_findPacks_46 rfl ?_
                refine gM_packed hx hb hts in8 hown hK hI (hts (.fieldLink RX8 185 "TrickHouseModel" "packed" "I") (by decide +kernel)) dX8_findPacks_47 ?_
                refine lv_iconst (v := 1) hx hb dX8_findPacks_50 (by decide) ?_
                refine lv_iadd hx hb dX8_findPacks_51 ?_
                refine pM_packed hx hb hts in8 hown hK hI (hts (.fieldLink RX8 185 "TrickHouseModel" "packed" "I") (by decide +kernel)) dX8_findPacks_52 (fun H locs hI => ?_)
                refine lv_iconst (v := 0) hx hb dX8_findPacks_55 (by decide) ?_
                refine lv_istore (lv' := [(4, .int 0), (2, .int x2), (3, .int x3), (0, .ref (A 0)), (1, .int a1)]) hx hb dX8_findPacks_56 hl (by decide) rfl (fun ls hl => ?_)
                have w58 : ∀ (n58 : Nat) (x2 : Int32) (x3 : Int32) (x4 : Int32) (v : (Nat → Int32)) (r : (Nat → Nat → Int32)), ∀ (H : Heap) (locs : List Loc), IW D (pcM cy A v r ++ X) A0 s.heap H locs → f_X8_findPacks_58 (fun z0 z1 z2 z3 => f_X8_findPacks_31 a1 n31 z0 z1 z2 z3) a1 n58 x2 x3 x4 v r = some (v2, r2) → ∀ ls : Array Slot, lv_has ls 5 [(2, .int x2), (3, .int x3), (4, .int x4), (0, .ref (A 0)), (1, .int a1)] → W p l e (headSpec wsX8_findPacks rm_X8_findPacks).room s m args below meth c H locs 0 0 (MQ below (QW none (GW D (tyM cy) (pcM cy A v2 r2 ++ X) A0) A0) args s 0 0 A0) (F0 m 58 ls []) := by
                  intro n58
                  induction n58 with
                  | zero =>
                    intro x2 x3 x4 v r H locs hI hres
                    have hres : (none : Option ST) = some (v2, r2) := hres
                    cases hres
                  | succ n58 ih58 =>
                    intro x2 x3 x4 v r H locs hI hres ls hl
                    replace hres := (f_X8_findPacks_58_s (fun z0 z1 z2 z3 => f_X8_findPacks_31 a1 n31 z0 z1 z2 z3) a1 n58 x2 x3 x4 v r).symm.trans hres
                    try dsimp only at hres
                    refine lv_iload hx hb dX8_findPacks_58 (lv_at hl 2 rfl) ?_
                    refine lv_aload_n hx hb dX8_findPacks_60 rfl (lv_at hl 3 rfl) ?_
                    refine gM_articles hx hb hts in8 hown hK hI (hts (.fieldLink RX8 74 "TrickHouseModel" "articles" "I") (by decide +kernel)) dX8_findPacks_61 ?_
                    refine lv_icmp_ge (tgt := 95) hx hb dX8_findPacks_64 (by decide) (fun c6 => ?_) (fun c6 => ?_)
                    · replace hres := (if_pos c6).symm.trans hres
                      refine lv_iinc (v := (x3 + 1)) (lv' := [(3, .int (x3 + 1)), (2, .int x2), (4, .int x4), (0, .ref (A 0)), (1, .int a1)]) hx hb dX8_findPacks_95 hl (k := 1) rfl rfl (by decide) rfl (fun ls hl => ?_)
                      refine lv_goto (tgt := 31) hx hb dX8_findPacks_98 (by decide) ?_
                      exact ih31 x2 (x3 + 1) v r _ _ hI hres ls (lv_sub hl [1, 0, 3, 4] rfl)
                    · replace hres := (if_neg c6).symm.trans hres
                      refine lv_aload_n hx hb dX8_findPacks_67 rfl (lv_at hl 3 rfl) ?_
                      refine gM_packed hx hb hts in8 hown hK hI (hts (.fieldLink RX8 185 "TrickHouseModel" "packed" "I") (by decide +kernel)) dX8_findPacks_68 ?_
                      refine lv_iconst (v := 1) hx hb dX8_findPacks_71 (by decide) ?_
                      refine lv_icmp_ne (tgt := 95) hx hb dX8_findPacks_72 (by decide) (fun c7 => ?_) (fun c7 => ?_)
                      · replace hres := (if_neg c7).symm.trans hres
                        refine lv_iinc (v := (x3 + 1)) (lv' := [(3, .int (x3 + 1)), (2, .int x2), (4, .int x4), (0, .ref (A 0)), (1, .int a1)]) hx hb dX8_findPacks_95 hl (k := 1) rfl rfl (by decide) rfl (fun ls hl => ?_)
                        refine lv_goto (tgt := 31) hx hb dX8_findPacks_98 (by decide) ?_
                        exact ih31 x2 (x3 + 1) v r _ _ hI hres ls (lv_sub hl [1, 0, 3, 4] rfl)
                      · replace hres := (if_pos c7).symm.trans hres
                        refine lv_aload_n hx hb dX8_findPacks_75 rfl (lv_at hl 3 rfl) ?_
                        refine gM_firstRoom hx hb hts in8 hown hK hI (hts (.fieldLink RX8 52 "TrickHouseModel" "firstRoom" "[I") (by decide +kernel)) dX8_findPacks_76 ?_
                        refine lv_iload hx hb dX8_findPacks_79 (lv_at hl 2 rfl) ?_
                        refine lv_aload_n hx hb dX8_findPacks_81 rfl (lv_at hl 3 rfl) ?_
                        refine gM_room hx hb hts in8 hown hK hI (hts (.fieldLink RX8 49 "TrickHouseModel" "room" "[I") (by decide +kernel)) dX8_findPacks_82 ?_
                        refine lv_iload hx hb dX8_findPacks_85 (lv_at hl 2 rfl) ?_
                        obtain ⟨g8, hres⟩ := gd hres
                        refine th_ild hx hb hK hI 14 0 rfl rfl g8 dX8_findPacks_87 ?_
                        obtain ⟨g9, hres⟩ := gd hres
                        refine th_ist hx hb hK hI 15 0 rfl rfl g9 stM_r15 dX8_findPacks_88 (fun H locs hI => ?_)
                        refine lv_iinc (v := (x4 + 1)) (lv' := [(4, .int (x4 + 1)), (2, .int x2), (3, .int x3), (0, .ref (A 0)), (1, .int a1)]) hx hb dX8_findPacks_89 hl (k := 2) rfl rfl (by decide) rfl (fun ls hl => ?_)
                        refine lv_goto (tgt := 58) hx hb dX8_findPacks_92 (by decide) ?_
                        exact ih58 x2 x3 (x4 + 1) v (va_up r 14 (upd (r 14) x4.toNatClampNeg (r 13 x4.toNatClampNeg))) _ _ hI hres ls (lv_sub hl [1, 2, 0, 3, 4] rfl)
                exact w58 80 x2 x3 (0 : Int32) (upd y4.2.1 12 ((y4.2.1 12) + 1)) y4.2.2 _ _ hI hres ls (lv_sub hl [1, 2, 0, 3, 4] rfl)
        exact w31 4200 x2 (0 : Int32) v r _ _ hI hres ls (lv_sub hl [1, 0, 2, 3] rfl)
      · replace hres := (if_neg c2).symm.trans hres
        refine lv_iload_n hx hb dX8_findPacks_16 rfl (lv_at hl 0 rfl) ?_
        refine lv_aload_n hx hb dX8_findPacks_17 rfl (lv_at hl 2 rfl) ?_
        refine gM_rooms hx hb hts in8 hown hK hI (hts (.fieldLink RX8 77 "TrickHouseModel" "rooms" "I") (by decide +kernel)) dX8_findPacks_18 ?_
        refine lv_imul hx hb dX8_findPacks_21 ?_
        refine lv_istore_n (lv' := [(2, .int (x2 * (v 3))), (3, .int x3), (0, .ref (A 0)), (1, .int a1)]) hx hb dX8_findPacks_22 rfl hl (by decide) rfl (fun ls hl => ?_)
        refine lv_iinc (v := (x3 + (-1))) (lv' := [(3, .int (x3 + (-1))), (2, .int (x2 * (v 3))), (0, .ref (A 0)), (1, .int a1)]) hx hb dX8_findPacks_23 hl (k := 1) rfl rfl (by decide) rfl (fun ls hl => ?_)
        refine lv_goto (tgt := 12) hx hb dX8_findPacks_26 (by decide) ?_
        exact ih12 (x2 * (v 3)) (x3 + (-1)) v r _ _ hI hres ls (lv_sub hl [1, 0, 2, 3] rfl)
  exact w12 80 (1 : Int32) y1 (upd v 12 0) r _ _ hI hres ls (lv_sub hl [1, 0, 2, 3] rfl)
abbrev rm_X8_packs : Room := { frames := 3, cells := 0, slots := 0, locals := 69 }
def f_X8_packs (v : Nat → Int32) (r : Nat → Nat → Int32) (a1 : Int32) (a2 : Int32) : Option (Int32 × ST) := (if (v 4) = 0 then some ((-3), (v, r)) else (if (f_X8_isSet v r a1) = true then (if (f_X8_within a2 ((-1) : Int32) (5 : Int32)) = true then (f_X8_findPacks v r a1).bind (fun y6 => (if a2 = (-1) then some ((y6.1 12), (y6.1, y6.2)) else (if (y6.1 12) ≤ 0 then some ((-9), (y6.1, y6.2)) else (if (f_X8_isArticle y6.1 y6.2 a2) = true then if inR a2 6 = true then some ((y6.2 14 a2.toNatClampNeg), (y6.1, y6.2)) else none else some ((-9), (y6.1, y6.2)))))) else some ((-2), (v, r))) else some ((-2), (v, r))))
set_option maxHeartbeats 4000000 in
set_option maxRecDepth 100000 in
theorem c_X8_packs (l : Launch) (D : va_G) (cy : Nat → ClassId) (A : Nat → Nat) (X : va_W) (A0 : Nat → Prop) (v : Nat → Int32) (r : Nat → Nat → Int32) (a1 : Int32) (a2 : Int32) (res : Int32) (v2 : Nat → Int32) (r2 : Nat → Nat → Int32) (hres : f_X8_packs v r a1 a2 = some (res, (v2, r2))) : Met l yX8_packs wsX8_packs rm_X8_packs (va_Pc [.ref (A 0), .int a1, .int a2] (GW D (tyM cy) (pcM cy A v r ++ X) A0)) (QW (some (.int res)) (GW D (tyM cy) (pcM cy A v2 r2 ++ X) A0) A0) 0 0 A0 := by
  refine Met.ofW (cc := cX8_packs) (maxL := 3) (ret := (some .int)) (by decide) rfl ?_
  intro p e s m args below meth c s₁ B hml hv
  obtain ⟨hargs, hP, hK, hD0, hN⟩ := hv
  have hx := B.exec
  have hb := B.bytes
  have hr := B.returns
  have hts := atoms_spec (ws := wsX8_packs) B.pre
  have hown : s.vm.findClass RX8 = some m.cls := findClass_of_methodNamed B.named
  have hlocks := B.notSynchronized
  have hI : IW D (pcM cy A v r ++ X) A0 s.heap s.heap [] := ⟨hP, hD0, va_S.rf⟩
  have S : CallFix p m c cX8_packs 3 s args wsX8_packs RX8 := ⟨hx, hb, hml, hown, hts⟩
  have in8 : ∀ w ∈ wsX80, w ∈ wsX8_packs := fun _ h => List.mem_cons_of_mem _ (List.mem_append_right _ h)
  have hl := lv_entry ([.ref (A 0), .int a1, .int a2]) (n := 3) (Nat.le_of_ble_eq_true rfl)
  have hE : entryFrame m args 3 = F0 m 0 ((lg_sl ([.ref (A 0), .int a1, .int a2]) ++ List.replicate (3 - (lg_sl ([.ref (A 0), .int a1, .int a2])).length) Slot.unset).toArray) [] := by rw [hargs]; exact lg_entry_eq m [.ref (A 0), .int a1, .int a2] 3
  rw [hE]
  generalize (lg_sl ([.ref (A 0), .int a1, .int a2]) ++ List.replicate (3 - (lg_sl ([.ref (A 0), .int a1, .int a2])).length) Slot.unset).toArray = ls at hl ⊢
  have hl : lv_has ls 3 [(0, .ref (A 0)), (1, .int a1), (2, .int a2)] := hl
  unfold f_X8_packs at hres
  refine lv_aload_n hx hb dX8_packs_0 rfl (lv_at hl 0 rfl) ?_
  refine gM_articles hx hb hts in8 hown hK hI (hts (.fieldLink RX8 74 "TrickHouseModel" "articles" "I") (by decide +kernel)) dX8_packs_1 ?_
  refine lv_if_ne (tgt := 10) hx hb dX8_packs_4 (by decide) (fun c1 => ?_) (fun c1 => ?_)
  · replace hres := (if_neg c1).symm.trans hres
    refine lv_aload_n hx hb dX8_packs_10 rfl (lv_at hl 0 rfl) ?_
    refine lv_iload_n hx hb dX8_packs_11 rfl (lv_at hl 1 rfl) ?_
    refine ro_v S (c_X8_isSet l D cy A X A0 v r a1 _ rfl) (cwV 1 hts gX8_packs_X8_isSet rfl rfl rfl (by decide +kernel) ⟨Nat.le_of_ble_eq_true rfl, Nat.le_of_ble_eq_true rfl⟩) hI hK hN (ci := 7) rfl (atM_0) rfl rfl hl.1 rfl (Nat.le_of_ble_eq_true rfl) dX8_packs_12 ⟨Nat.zero_le _, Nat.zero_le _⟩ ?_
    refine lv_if_eq (tgt := 27) hx hb dX8_packs_15 (by decide) (fun c3 => ?_) (fun c3 => ?_)
    · replace hres := (if_neg (bI_f c3)).symm.trans hres
      refine lv_bipush (v := (-2)) hx hb dX8_packs_27 (by decide) ?_
      obtain ⟨rfl, rfl, rfl⟩ := pr3 hres
      exact W.iret hx hb hr (fun t ht hW => ⟨rfl, ⟨by rw [ht]; exact hI.1, va_K.moved hW.alike hK, hI.2.1, NW.warm hW hN⟩, hI.2.2.F ht⟩) hI.2.2.2.2 dX8_packs_29
    · replace hres := (if_pos (bI_t c3)).symm.trans hres
      refine lv_iload_n hx hb dX8_packs_18 rfl (lv_at hl 2 rfl) ?_
      refine lv_iconst (v := (-1)) hx hb dX8_packs_19 (by decide) ?_
      refine lv_iconst (v := 5) hx hb dX8_packs_20 (by decide) ?_
      refine pu_s S (c_X8_within l a2 ((-1) : Int32) (5 : Int32) _ rfl) (va_cwS 3 hts gX8_packs_X8_within rfl rfl rfl (by decide +kernel) ⟨Nat.le_of_ble_eq_true rfl, Nat.le_of_ble_eq_true rfl⟩) hN rfl hl.1 rfl (Nat.le_of_ble_eq_true rfl) dX8_packs_21 ⟨Nat.zero_le _, Nat.zero_le _⟩ ?_
      refine lv_if_ne (tgt := 30) hx hb dX8_packs_24 (by decide) (fun c5 => ?_) (fun c5 => ?_)
      · replace hres := (if_pos (bI_t c5)).symm.trans hres
        refine lv_aload_n hx hb dX8_packs_30 rfl (lv_at hl 0 rfl) ?_
        refine lv_iload_n hx hb dX8_packs_31 rfl (lv_at hl 1 rfl) ?_
        obtain ⟨y6, e6, hres⟩ := bd hres
        refine rw_v S (c_X8_findPacks l D cy A X A0 v r a1 y6.1 y6.2 e6) (cwV 1 hts gX8_packs_X8_findPacks rfl rfl rfl (by decide +kernel) ⟨Nat.le_of_ble_eq_true rfl, Nat.le_of_ble_eq_true rfl⟩) hI hK hN (ci := 7) rfl (atM_0) rfl rfl hl.1 rfl (Nat.le_of_ble_eq_true rfl) dX8_packs_32 ⟨Nat.zero_le _, Nat.zero_le _⟩ (fun H locs hI => ?_)
        refine lv_iload_n hx hb dX8_packs_35 rfl (lv_at hl 2 rfl) ?_
        refine lv_iconst (v := (-1)) hx hb dX8_packs_36 (by decide) ?_
        refine lv_icmp_ne (tgt := 45) hx hb dX8_packs_37 (by decide) (fun c7 => ?_) (fun c7 => ?_)
        · replace hres := (if_neg c7).symm.trans hres
          refine lv_aload_n hx hb dX8_packs_45 rfl (lv_at hl 0 rfl) ?_
          refine gM_packed hx hb hts in8 hown hK hI (hts (.fieldLink RX8 185 "TrickHouseModel" "packed" "I") (by decide +kernel)) dX8_packs_46 ?_
          refine lv_if_le (tgt := 69) hx hb dX8_packs_49 (by decide) (fun c8 => ?_) (fun c8 => ?_)
          · replace hres := (if_pos c8).symm.trans hres
            refine lv_bipush (v := (-9)) hx hb dX8_packs_69 (by decide) ?_
            obtain ⟨rfl, rfl, rfl⟩ := pr3 hres
            exact W.iret hx hb hr (fun t ht hW => ⟨rfl, ⟨by rw [ht]; exact hI.1, va_K.moved hW.alike hK, hI.2.1, NW.warm hW hN⟩, hI.2.2.F ht⟩) hI.2.2.2.2 dX8_packs_71
          · replace hres := (if_neg c8).symm.trans hres
            refine lv_aload_n hx hb dX8_packs_52 rfl (lv_at hl 0 rfl) ?_
            refine lv_iload_n hx hb dX8_packs_53 rfl (lv_at hl 2 rfl) ?_
            refine ro_v S (c_X8_isArticle l D cy A X A0 y6.1 y6.2 a2 _ rfl) (cwV 1 hts gX8_packs_X8_isArticle rfl rfl rfl (by decide +kernel) ⟨Nat.le_of_ble_eq_true rfl, Nat.le_of_ble_eq_true rfl⟩) hI hK hN (ci := 7) rfl (atM_0) rfl rfl hl.1 rfl (Nat.le_of_ble_eq_true rfl) dX8_packs_54 ⟨Nat.zero_le _, Nat.zero_le _⟩ ?_
            refine lv_if_eq (tgt := 69) hx hb dX8_packs_57 (by decide) (fun c10 => ?_) (fun c10 => ?_)
            · replace hres := (if_neg (bI_f c10)).symm.trans hres
              refine lv_bipush (v := (-9)) hx hb dX8_packs_69 (by decide) ?_
              obtain ⟨rfl, rfl, rfl⟩ := pr3 hres
              exact W.iret hx hb hr (fun t ht hW => ⟨rfl, ⟨by rw [ht]; exact hI.1, va_K.moved hW.alike hK, hI.2.1, NW.warm hW hN⟩, hI.2.2.F ht⟩) hI.2.2.2.2 dX8_packs_71
            · replace hres := (if_pos (bI_t c10)).symm.trans hres
              refine lv_aload_n hx hb dX8_packs_60 rfl (lv_at hl 0 rfl) ?_
              refine gM_firstRoom hx hb hts in8 hown hK hI (hts (.fieldLink RX8 52 "TrickHouseModel" "firstRoom" "[I") (by decide +kernel)) dX8_packs_61 ?_
              refine lv_iload_n hx hb dX8_packs_64 rfl (lv_at hl 2 rfl) ?_
              obtain ⟨g11, hres⟩ := gd hres
              refine th_ild hx hb hK hI 15 0 rfl rfl g11 dX8_packs_65 ?_
              refine lv_goto (tgt := 71) hx hb dX8_packs_66 (by decide) ?_
              obtain ⟨rfl, rfl, rfl⟩ := pr3 hres
              exact W.iret hx hb hr (fun t ht hW => ⟨rfl, ⟨by rw [ht]; exact hI.1, va_K.moved hW.alike hK, hI.2.1, NW.warm hW hN⟩, hI.2.2.F ht⟩) hI.2.2.2.2 dX8_packs_71
        · replace hres := (if_pos c7).symm.trans hres
          refine lv_aload_n hx hb dX8_packs_40 rfl (lv_at hl 0 rfl) ?_
          refine gM_packed hx hb hts in8 hown hK hI (hts (.fieldLink RX8 185 "TrickHouseModel" "packed" "I") (by decide +kernel)) dX8_packs_41 ?_
          obtain ⟨rfl, rfl, rfl⟩ := pr3 hres
          exact W.iret hx hb hr (fun t ht hW => ⟨rfl, ⟨by rw [ht]; exact hI.1, va_K.moved hW.alike hK, hI.2.1, NW.warm hW hN⟩, hI.2.2.F ht⟩) hI.2.2.2.2 dX8_packs_44
      · replace hres := (if_neg (bI_f c5)).symm.trans hres
        refine lv_bipush (v := (-2)) hx hb dX8_packs_27 (by decide) ?_
        obtain ⟨rfl, rfl, rfl⟩ := pr3 hres
        exact W.iret hx hb hr (fun t ht hW => ⟨rfl, ⟨by rw [ht]; exact hI.1, va_K.moved hW.alike hK, hI.2.1, NW.warm hW hN⟩, hI.2.2.F ht⟩) hI.2.2.2.2 dX8_packs_29
  · replace hres := (if_pos c1).symm.trans hres
    refine lv_bipush (v := (-3)) hx hb dX8_packs_7 (by decide) ?_
    obtain ⟨rfl, rfl, rfl⟩ := pr3 hres
    exact W.iret hx hb hr (fun t ht hW => ⟨rfl, ⟨by rw [ht]; exact hI.1, va_K.moved hW.alike hK, hI.2.1, NW.warm hW hN⟩, hI.2.2.F ht⟩) hI.2.2.2.2 dX8_packs_9
abbrev rm_X8_fewestFor : Room := { frames := 3, cells := 0, slots := 0, locals := 70 }
def f_X8_fewestFor_6 (v : Nat → Int32) (r : Nat → Nat → Int32) (a1 : Int32) (a2 : Int32) : Nat → Int32 → Int32 → Option Int32
  | 0, _, _ => none
  | n6 + 1, x3, x4 => (if ((1 : Int32) <<< ((v 4) &&& 31)) ≤ x4 then some (x3) else (if (x4 &&& ((v 5) ^^^ (-1))) = 0 then (if (x4 &&& a2) = 0 then (if x3 = (-9) then (f_X8_companyOf v r ((v 5) &&& (x4 ^^^ (-1)))).bind (fun y8 => (if (y8 &&& a1) = 0 then f_X8_fewestFor_6 v r a1 a2 n6 x4 (x4 + 1) else f_X8_fewestFor_6 v r a1 a2 n6 x3 (x4 + 1))) else (f_X8_size x4).bind (fun y10 => (f_X8_size x3).bind (fun y11 => (if y11 ≤ y10 then f_X8_fewestFor_6 v r a1 a2 n6 x3 (x4 + 1) else (f_X8_companyOf v r ((v 5) &&& (x4 ^^^ (-1)))).bind (fun y15 => (if (y15 &&& a1) = 0 then f_X8_fewestFor_6 v r a1 a2 n6 x4 (x4 + 1) else f_X8_fewestFor_6 v r a1 a2 n6 x3 (x4 + 1))))))) else f_X8_fewestFor_6 v r a1 a2 n6 x3 (x4 + 1)) else f_X8_fewestFor_6 v r a1 a2 n6 x3 (x4 + 1)))
theorem f_X8_fewestFor_6_s (v : Nat → Int32) (r : Nat → Nat → Int32) (a1 : Int32) (a2 : Int32) (n6 : Nat) (x3 : Int32) (x4 : Int32) : f_X8_fewestFor_6 v r a1 a2 (n6 + 1) x3 x4 = (if ((1 : Int32) <<< ((v 4) &&& 31)) ≤ x4 then some (x3) else (if (x4 &&& ((v 5) ^^^ (-1))) = 0 then (if (x4 &&& a2) = 0 then (if x3 = (-9) then (f_X8_companyOf v r ((v 5) &&& (x4 ^^^ (-1)))).bind (fun y8 => (if (y8 &&& a1) = 0 then f_X8_fewestFor_6 v r a1 a2 n6 x4 (x4 + 1) else f_X8_fewestFor_6 v r a1 a2 n6 x3 (x4 + 1))) else (f_X8_size x4).bind (fun y10 => (f_X8_size x3).bind (fun y11 => (if y11 ≤ y10 then f_X8_fewestFor_6 v r a1 a2 n6 x3 (x4 + 1) else (f_X8_companyOf v r ((v 5) &&& (x4 ^^^ (-1)))).bind (fun y15 => (if (y15 &&& a1) = 0 then f_X8_fewestFor_6 v r a1 a2 n6 x4 (x4 + 1) else f_X8_fewestFor_6 v r a1 a2 n6 x3 (x4 + 1))))))) else f_X8_fewestFor_6 v r a1 a2 n6 x3 (x4 + 1)) else f_X8_fewestFor_6 v r a1 a2 n6 x3 (x4 + 1))) := rfl
def f_X8_fewestFor (v : Nat → Int32) (r : Nat → Nat → Int32) (a1 : Int32) (a2 : Int32) : Option Int32 := f_X8_fewestFor_6 v r a1 a2 80 ((-9) : Int32) (0 : Int32)
set_option maxHeartbeats 4000000 in
set_option maxRecDepth 100000 in
theorem c_X8_fewestFor (l : Launch) (D : va_G) (cy : Nat → ClassId) (A : Nat → Nat) (X : va_W) (A0 : Nat → Prop) (v : Nat → Int32) (r : Nat → Nat → Int32) (a1 : Int32) (a2 : Int32) (res : Int32) (hres : f_X8_fewestFor v r a1 a2 = some res) : Met l yX8_fewestFor wsX8_fewestFor rm_X8_fewestFor (va_Pc [.ref (A 0), .int a1, .int a2] (GW D (tyM cy) (pcM cy A v r ++ X) A0)) (QR (.int res)) 0 0 (fun _ => False) := by
  refine Met.ofW (cc := cX8_fewestFor) (maxL := 6) (ret := (some .int)) (by decide) rfl ?_
  intro p e s m args below meth c s₁ B hml hv
  obtain ⟨hargs, hP, hK, hD0, hN⟩ := hv
  have hx := B.exec
  have hb := B.bytes
  have hr := B.returns
  have hts := atoms_spec (ws := wsX8_fewestFor) B.pre
  have hown : s.vm.findClass RX8 = some m.cls := findClass_of_methodNamed B.named
  have hlocks := B.notSynchronized
  have hI : IW D (pcM cy A v r ++ X) A0 s.heap s.heap [] := ⟨hP, hD0, va_S.rf⟩
  have S : CallFix p m c cX8_fewestFor 6 s args wsX8_fewestFor RX8 := ⟨hx, hb, hml, hown, hts⟩
  have in8 : ∀ w ∈ wsX80, w ∈ wsX8_fewestFor := fun _ h => List.mem_cons_of_mem _ (List.mem_append_right _ h)
  have hl := lv_entry ([.ref (A 0), .int a1, .int a2]) (n := 6) (Nat.le_of_ble_eq_true rfl)
  have hE : entryFrame m args 6 = F0 m 0 ((lg_sl ([.ref (A 0), .int a1, .int a2]) ++ List.replicate (6 - (lg_sl ([.ref (A 0), .int a1, .int a2])).length) Slot.unset).toArray) [] := by rw [hargs]; exact lg_entry_eq m [.ref (A 0), .int a1, .int a2] 6
  rw [hE]
  generalize (lg_sl ([.ref (A 0), .int a1, .int a2]) ++ List.replicate (6 - (lg_sl ([.ref (A 0), .int a1, .int a2])).length) Slot.unset).toArray = ls at hl ⊢
  have hl : lv_has ls 6 [(0, .ref (A 0)), (1, .int a1), (2, .int a2)] := hl
  unfold f_X8_fewestFor at hres
  refine lv_bipush (v := (-9)) hx hb dX8_fewestFor_0 (by decide) ?_
  refine lv_istore_n (lv' := [(3, .int (-9)), (0, .ref (A 0)), (1, .int a1), (2, .int a2)]) hx hb dX8_fewestFor_2 rfl hl (by decide) rfl (fun ls hl => ?_)
  refine lv_iconst (v := 0) hx hb dX8_fewestFor_3 (by decide) ?_
  refine lv_istore (lv' := [(4, .int 0), (3, .int (-9)), (0, .ref (A 0)), (1, .int a1), (2, .int a2)]) hx hb dX8_fewestFor_4 hl (by decide) rfl (fun ls hl => ?_)
  have w6 : ∀ (n6 : Nat) (x3 : Int32) (x4 : Int32), f_X8_fewestFor_6 v r a1 a2 n6 x3 x4 = some res → ∀ ls : Array Slot, lv_has ls 6 [(3, .int x3), (4, .int x4), (0, .ref (A 0)), (1, .int a1), (2, .int a2)] → W p l e (headSpec wsX8_fewestFor rm_X8_fewestFor).room s m args below meth c s.heap [] 0 0 (MQ below (QR (.int res)) args s 0 0 (fun _ => False)) (F0 m 6 ls []) := by
    intro n6
    induction n6 with
    | zero =>
      intro x3 x4  hres
      have hres : (none : Option Int32) = some res := hres
      cases hres
    | succ n6 ih6 =>
      intro x3 x4  hres ls hl
      replace hres := (f_X8_fewestFor_6_s v r a1 a2 n6 x3 x4).symm.trans hres
      refine lv_iload hx hb dX8_fewestFor_6 (lv_at hl 1 rfl) ?_
      refine lv_iconst (v := 1) hx hb dX8_fewestFor_8 (by decide) ?_
      refine lv_aload_n hx hb dX8_fewestFor_9 rfl (lv_at hl 2 rfl) ?_
      refine gM_articles hx hb hts in8 hown hK hI (hts (.fieldLink RX8 74 "TrickHouseModel" "articles" "I") (by decide +kernel)) dX8_fewestFor_10 ?_
      refine lv_ishl hx hb dX8_fewestFor_13 ?_
      refine lv_icmp_ge (tgt := 93) hx hb dX8_fewestFor_14 (by decide) (fun c1 => ?_) (fun c1 => ?_)
      · replace hres := (if_pos c1).symm.trans hres
        refine lv_iload_n hx hb dX8_fewestFor_93 rfl (lv_at hl 0 rfl) ?_
        obtain rfl := Option.some.inj hres
        exact W.iret hx hb hr (fun t ht hW => ⟨rfl, ht⟩) (fun _ h => absurd h List.not_mem_nil) dX8_fewestFor_94
      · replace hres := (if_neg c1).symm.trans hres
        refine lv_iload hx hb dX8_fewestFor_17 (lv_at hl 1 rfl) ?_
        refine lv_aload_n hx hb dX8_fewestFor_19 rfl (lv_at hl 2 rfl) ?_
        refine gM_thereNow hx hb hts in8 hown hK hI (hts (.fieldLink RX8 116 "TrickHouseModel" "thereNow" "I") (by decide +kernel)) dX8_fewestFor_20 ?_
        refine lv_iconst (v := (-1)) hx hb dX8_fewestFor_23 (by decide) ?_
        refine lv_ixor hx hb dX8_fewestFor_24 ?_
        refine lv_iand hx hb dX8_fewestFor_25 ?_
        refine lv_if_ne (tgt := 58) hx hb dX8_fewestFor_26 (by decide) (fun c2 => ?_) (fun c2 => ?_)
        · replace hres := (if_neg c2).symm.trans hres
          refine lv_iconst (v := 0) hx hb dX8_fewestFor_58 (by decide) ?_
          refine lv_istore (lv' := [(5, .int 0), (3, .int x3), (4, .int x4), (0, .ref (A 0)), (1, .int a1), (2, .int a2)]) hx hb dX8_fewestFor_59 hl (by decide) rfl (fun ls hl => ?_)
          refine lv_iload hx hb dX8_fewestFor_61 (lv_at hl 0 rfl) ?_
          refine lv_if_eq (tgt := 87) hx hb dX8_fewestFor_63 (by decide) (fun c3 => ?_) (fun c3 => absurd (by decide) c3)
          refine lv_iinc (v := (x4 + 1)) (lv' := [(4, .int (x4 + 1)), (5, .int 0), (3, .int x3), (0, .ref (A 0)), (1, .int a1), (2, .int a2)]) hx hb dX8_fewestFor_87 hl (k := 2) rfl rfl (by decide) rfl (fun ls hl => ?_)
          refine lv_goto (tgt := 6) hx hb dX8_fewestFor_90 (by decide) ?_
          exact ih6 x3 (x4 + 1) hres ls (lv_sub hl [2, 0, 3, 4, 5] rfl)
        · replace hres := (if_pos c2).symm.trans hres
          refine lv_iload hx hb dX8_fewestFor_29 (lv_at hl 1 rfl) ?_
          refine lv_iload_n hx hb dX8_fewestFor_31 rfl (lv_at hl 4 rfl) ?_
          refine lv_iand hx hb dX8_fewestFor_32 ?_
          refine lv_if_ne (tgt := 58) hx hb dX8_fewestFor_33 (by decide) (fun c4 => ?_) (fun c4 => ?_)
          · replace hres := (if_neg c4).symm.trans hres
            refine lv_iconst (v := 0) hx hb dX8_fewestFor_58 (by decide) ?_
            refine lv_istore (lv' := [(5, .int 0), (3, .int x3), (4, .int x4), (0, .ref (A 0)), (1, .int a1), (2, .int a2)]) hx hb dX8_fewestFor_59 hl (by decide) rfl (fun ls hl => ?_)
            refine lv_iload hx hb dX8_fewestFor_61 (lv_at hl 0 rfl) ?_
            refine lv_if_eq (tgt := 87) hx hb dX8_fewestFor_63 (by decide) (fun c5 => ?_) (fun c5 => absurd (by decide) c5)
            refine lv_iinc (v := (x4 + 1)) (lv' := [(4, .int (x4 + 1)), (5, .int 0), (3, .int x3), (0, .ref (A 0)), (1, .int a1), (2, .int a2)]) hx hb dX8_fewestFor_87 hl (k := 2) rfl rfl (by decide) rfl (fun ls hl => ?_)
            refine lv_goto (tgt := 6) hx hb dX8_fewestFor_90 (by decide) ?_
            exact ih6 x3 (x4 + 1) hres ls (lv_sub hl [2, 0, 3, 4, 5] rfl)
          · replace hres := (if_pos c4).symm.trans hres
            refine lv_iload_n hx hb dX8_fewestFor_36 rfl (lv_at hl 0 rfl) ?_
            refine lv_bipush (v := (-9)) hx hb dX8_fewestFor_37 (by decide) ?_
            refine lv_icmp_eq (tgt := 54) hx hb dX8_fewestFor_39 (by decide) (fun c6 => ?_) (fun c6 => ?_)
            · replace hres := (if_pos c6).symm.trans hres
              refine lv_iconst (v := 1) hx hb dX8_fewestFor_54 (by decide) ?_
              refine lv_goto (tgt := 59) hx hb dX8_fewestFor_55 (by decide) ?_
              refine lv_istore (lv' := [(5, .int 1), (3, .int x3), (4, .int x4), (0, .ref (A 0)), (1, .int a1), (2, .int a2)]) hx hb dX8_fewestFor_59 hl (by decide) rfl (fun ls hl => ?_)
              refine lv_iload hx hb dX8_fewestFor_61 (lv_at hl 0 rfl) ?_
              refine lv_if_eq (tgt := 87) hx hb dX8_fewestFor_63 (by decide) (fun c7 => absurd c7 (by decide)) (fun c7 => ?_)
              refine lv_aload_n hx hb dX8_fewestFor_66 rfl (lv_at hl 3 rfl) ?_
              refine lv_aload_n hx hb dX8_fewestFor_67 rfl (lv_at hl 3 rfl) ?_
              refine gM_thereNow hx hb hts in8 hown hK hI (hts (.fieldLink RX8 116 "TrickHouseModel" "thereNow" "I") (by decide +kernel)) dX8_fewestFor_68 ?_
              refine lv_iload hx hb dX8_fewestFor_71 (lv_at hl 2 rfl) ?_
              refine lv_iconst (v := (-1)) hx hb dX8_fewestFor_73 (by decide) ?_
              refine lv_ixor hx hb dX8_fewestFor_74 ?_
              refine lv_iand hx hb dX8_fewestFor_75 ?_
              obtain ⟨y8, e8, hres⟩ := bd hres
              refine ro_v S (c_X8_companyOf l D cy A X A0 v r ((v 5) &&& (x4 ^^^ (-1))) y8 e8) (cwV 1 hts gX8_fewestFor_X8_companyOf rfl rfl rfl (by decide +kernel) ⟨Nat.le_of_ble_eq_true rfl, Nat.le_of_ble_eq_true rfl⟩) hI hK hN (ci := 7) rfl (atM_0) rfl rfl hl.1 rfl (Nat.le_of_ble_eq_true rfl) dX8_fewestFor_76 ⟨Nat.zero_le _, Nat.zero_le _⟩ ?_
              refine lv_iload_n hx hb dX8_fewestFor_79 rfl (lv_at hl 4 rfl) ?_
              refine lv_iand hx hb dX8_fewestFor_80 ?_
              refine lv_if_ne (tgt := 87) hx hb dX8_fewestFor_81 (by decide) (fun c9 => ?_) (fun c9 => ?_)
              · replace hres := (if_neg c9).symm.trans hres
                refine lv_iinc (v := (x4 + 1)) (lv' := [(4, .int (x4 + 1)), (5, .int 1), (3, .int x3), (0, .ref (A 0)), (1, .int a1), (2, .int a2)]) hx hb dX8_fewestFor_87 hl (k := 2) rfl rfl (by decide) rfl (fun ls hl => ?_)
                refine lv_goto (tgt := 6) hx hb dX8_fewestFor_90 (by decide) ?_
                exact ih6 x3 (x4 + 1) hres ls (lv_sub hl [2, 0, 3, 4, 5] rfl)
              · replace hres := (if_pos c9).symm.trans hres
                refine lv_iload hx hb dX8_fewestFor_84 (lv_at hl 2 rfl) ?_
                refine lv_istore_n (lv' := [(3, .int x4), (5, .int 1), (4, .int x4), (0, .ref (A 0)), (1, .int a1), (2, .int a2)]) hx hb dX8_fewestFor_86 rfl hl (by decide) rfl (fun ls hl => ?_)
                refine lv_iinc (v := (x4 + 1)) (lv' := [(4, .int (x4 + 1)), (3, .int x4), (5, .int 1), (0, .ref (A 0)), (1, .int a1), (2, .int a2)]) hx hb dX8_fewestFor_87 hl (k := 2) rfl rfl (by decide) rfl (fun ls hl => ?_)
                refine lv_goto (tgt := 6) hx hb dX8_fewestFor_90 (by decide) ?_
                exact ih6 x4 (x4 + 1) hres ls (lv_sub hl [1, 0, 3, 4, 5] rfl)
            · replace hres := (if_neg c6).symm.trans hres
              refine lv_iload hx hb dX8_fewestFor_42 (lv_at hl 1 rfl) ?_
              obtain ⟨y10, e10, hres⟩ := bd hres
              refine pu_s S (c_X8_size l x4 y10 e10) (va_cwS 1 hts gX8_fewestFor_X8_size rfl rfl rfl (by decide +kernel) ⟨Nat.le_of_ble_eq_true rfl, Nat.le_of_ble_eq_true rfl⟩) hN rfl hl.1 rfl (Nat.le_of_ble_eq_true rfl) dX8_fewestFor_44 ⟨Nat.zero_le _, Nat.zero_le _⟩ ?_
              refine lv_iload_n hx hb dX8_fewestFor_47 rfl (lv_at hl 0 rfl) ?_
              obtain ⟨y11, e11, hres⟩ := bd hres
              refine pu_s S (c_X8_size l x3 y11 e11) (va_cwS 1 hts gX8_fewestFor_X8_size rfl rfl rfl (by decide +kernel) ⟨Nat.le_of_ble_eq_true rfl, Nat.le_of_ble_eq_true rfl⟩) hN rfl hl.1 rfl (Nat.le_of_ble_eq_true rfl) dX8_fewestFor_48 ⟨Nat.zero_le _, Nat.zero_le _⟩ ?_
              refine lv_icmp_ge (tgt := 58) hx hb dX8_fewestFor_51 (by decide) (fun c12 => ?_) (fun c12 => ?_)
              · replace hres := (if_pos c12).symm.trans hres
                refine lv_iconst (v := 0) hx hb dX8_fewestFor_58 (by decide) ?_
                refine lv_istore (lv' := [(5, .int 0), (3, .int x3), (4, .int x4), (0, .ref (A 0)), (1, .int a1), (2, .int a2)]) hx hb dX8_fewestFor_59 hl (by decide) rfl (fun ls hl => ?_)
                refine lv_iload hx hb dX8_fewestFor_61 (lv_at hl 0 rfl) ?_
                refine lv_if_eq (tgt := 87) hx hb dX8_fewestFor_63 (by decide) (fun c13 => ?_) (fun c13 => absurd (by decide) c13)
                refine lv_iinc (v := (x4 + 1)) (lv' := [(4, .int (x4 + 1)), (5, .int 0), (3, .int x3), (0, .ref (A 0)), (1, .int a1), (2, .int a2)]) hx hb dX8_fewestFor_87 hl (k := 2) rfl rfl (by decide) rfl (fun ls hl => ?_)
                refine lv_goto (tgt := 6) hx hb dX8_fewestFor_90 (by decide) ?_
                exact ih6 x3 (x4 + 1) hres ls (lv_sub hl [2, 0, 3, 4, 5] rfl)
              · replace hres := (if_neg c12).symm.trans hres
                refine lv_iconst (v := 1) hx hb dX8_fewestFor_54 (by decide) ?_
                refine lv_goto (tgt := 59) hx hb dX8_fewestFor_55 (by decide) ?_
                refine lv_istore (lv' := [(5, .int 1), (3, .int x3), (4, .int x4), (0, .ref (A 0)), (1, .int a1), (2, .int a2)]) hx hb dX8_fewestFor_59 hl (by decide) rfl (fun ls hl => ?_)
                refine lv_iload hx hb dX8_fewestFor_61 (lv_at hl 0 rfl) ?_
                refine lv_if_eq (tgt := 87) hx hb dX8_fewestFor_63 (by decide) (fun c14 => absurd c14 (by decide)) (fun c14 => ?_)
                refine lv_aload_n hx hb dX8_fewestFor_66 rfl (lv_at hl 3 rfl) ?_
                refine lv_aload_n hx hb dX8_fewestFor_67 rfl (lv_at hl 3 rfl) ?_
                refine gM_thereNow hx hb hts in8 hown hK hI (hts (.fieldLink RX8 116 "TrickHouseModel" "thereNow" "I") (by decide +kernel)) dX8_fewestFor_68 ?_
                refine lv_iload hx hb dX8_fewestFor_71 (lv_at hl 2 rfl) ?_
                refine lv_iconst (v := (-1)) hx hb dX8_fewestFor_73 (by decide) ?_
                refine lv_ixor hx hb dX8_fewestFor_74 ?_
                refine lv_iand hx hb dX8_fewestFor_75 ?_
                obtain ⟨y15, e15, hres⟩ := bd hres
                refine ro_v S (c_X8_companyOf l D cy A X A0 v r ((v 5) &&& (x4 ^^^ (-1))) y15 e15) (cwV 1 hts gX8_fewestFor_X8_companyOf rfl rfl rfl (by decide +kernel) ⟨Nat.le_of_ble_eq_true rfl, Nat.le_of_ble_eq_true rfl⟩) hI hK hN (ci := 7) rfl (atM_0) rfl rfl hl.1 rfl (Nat.le_of_ble_eq_true rfl) dX8_fewestFor_76 ⟨Nat.zero_le _, Nat.zero_le _⟩ ?_
                refine lv_iload_n hx hb dX8_fewestFor_79 rfl (lv_at hl 4 rfl) ?_
                refine lv_iand hx hb dX8_fewestFor_80 ?_
                refine lv_if_ne (tgt := 87) hx hb dX8_fewestFor_81 (by decide) (fun c16 => ?_) (fun c16 => ?_)
                · replace hres := (if_neg c16).symm.trans hres
                  refine lv_iinc (v := (x4 + 1)) (lv' := [(4, .int (x4 + 1)), (5, .int 1), (3, .int x3), (0, .ref (A 0)), (1, .int a1), (2, .int a2)]) hx hb dX8_fewestFor_87 hl (k := 2) rfl rfl (by decide) rfl (fun ls hl => ?_)
                  refine lv_goto (tgt := 6) hx hb dX8_fewestFor_90 (by decide) ?_
                  exact ih6 x3 (x4 + 1) hres ls (lv_sub hl [2, 0, 3, 4, 5] rfl)
                · replace hres := (if_pos c16).symm.trans hres
                  refine lv_iload hx hb dX8_fewestFor_84 (lv_at hl 2 rfl) ?_
                  refine lv_istore_n (lv' := [(3, .int x4), (5, .int 1), (4, .int x4), (0, .ref (A 0)), (1, .int a1), (2, .int a2)]) hx hb dX8_fewestFor_86 rfl hl (by decide) rfl (fun ls hl => ?_)
                  refine lv_iinc (v := (x4 + 1)) (lv' := [(4, .int (x4 + 1)), (3, .int x4), (5, .int 1), (0, .ref (A 0)), (1, .int a1), (2, .int a2)]) hx hb dX8_fewestFor_87 hl (k := 2) rfl rfl (by decide) rfl (fun ls hl => ?_)
                  refine lv_goto (tgt := 6) hx hb dX8_fewestFor_90 (by decide) ?_
                  exact ih6 x4 (x4 + 1) hres ls (lv_sub hl [1, 0, 3, 4, 5] rfl)
  exact w6 80 ((-9) : Int32) (0 : Int32) hres ls (lv_sub hl [1, 0, 2, 3, 4] rfl)
abbrev rm_X8_fetch : Room := { frames := 4, cells := 0, slots := 0, locals := 95 }
def f_X8_fetch (v : Nat → Int32) (r : Nat → Nat → Int32) (a1 : Int32) : Option Int32 := (if (v 4) = 0 then some ((-3)) else (if (f_X8_isSet v r a1) = true then (if (a1 &&& ((v 5) ^^^ (-1))) = 0 then (f_X8_fewestFor v r a1 (0 : Int32)).bind (fun y5 => some (y5)) else some ((-3))) else some ((-2))))
set_option maxHeartbeats 4000000 in
set_option maxRecDepth 100000 in
theorem c_X8_fetch (l : Launch) (D : va_G) (cy : Nat → ClassId) (A : Nat → Nat) (X : va_W) (A0 : Nat → Prop) (v : Nat → Int32) (r : Nat → Nat → Int32) (a1 : Int32) (res : Int32) (hres : f_X8_fetch v r a1 = some res) : Met l yX8_fetch wsX8_fetch rm_X8_fetch (va_Pc [.ref (A 0), .int a1] (GW D (tyM cy) (pcM cy A v r ++ X) A0)) (QR (.int res)) 0 0 (fun _ => False) := by
  refine Met.ofW (cc := cX8_fetch) (maxL := 2) (ret := (some .int)) (by decide) rfl ?_
  intro p e s m args below meth c s₁ B hml hv
  obtain ⟨hargs, hP, hK, hD0, hN⟩ := hv
  have hx := B.exec
  have hb := B.bytes
  have hr := B.returns
  have hts := atoms_spec (ws := wsX8_fetch) B.pre
  have hown : s.vm.findClass RX8 = some m.cls := findClass_of_methodNamed B.named
  have hlocks := B.notSynchronized
  have hI : IW D (pcM cy A v r ++ X) A0 s.heap s.heap [] := ⟨hP, hD0, va_S.rf⟩
  have S : CallFix p m c cX8_fetch 2 s args wsX8_fetch RX8 := ⟨hx, hb, hml, hown, hts⟩
  have in8 : ∀ w ∈ wsX80, w ∈ wsX8_fetch := fun _ h => List.mem_cons_of_mem _ (List.mem_append_right _ h)
  have hl := lv_entry ([.ref (A 0), .int a1]) (n := 2) (Nat.le_of_ble_eq_true rfl)
  have hE : entryFrame m args 2 = F0 m 0 ((lg_sl ([.ref (A 0), .int a1]) ++ List.replicate (2 - (lg_sl ([.ref (A 0), .int a1])).length) Slot.unset).toArray) [] := by rw [hargs]; exact lg_entry_eq m [.ref (A 0), .int a1] 2
  rw [hE]
  generalize (lg_sl ([.ref (A 0), .int a1]) ++ List.replicate (2 - (lg_sl ([.ref (A 0), .int a1])).length) Slot.unset).toArray = ls at hl ⊢
  have hl : lv_has ls 2 [(0, .ref (A 0)), (1, .int a1)] := hl
  unfold f_X8_fetch at hres
  refine lv_aload_n hx hb dX8_fetch_0 rfl (lv_at hl 0 rfl) ?_
  refine gM_articles hx hb hts in8 hown hK hI (hts (.fieldLink RX8 74 "TrickHouseModel" "articles" "I") (by decide +kernel)) dX8_fetch_1 ?_
  refine lv_if_ne (tgt := 10) hx hb dX8_fetch_4 (by decide) (fun c1 => ?_) (fun c1 => ?_)
  · replace hres := (if_neg c1).symm.trans hres
    refine lv_aload_n hx hb dX8_fetch_10 rfl (lv_at hl 0 rfl) ?_
    refine lv_iload_n hx hb dX8_fetch_11 rfl (lv_at hl 1 rfl) ?_
    refine ro_v S (c_X8_isSet l D cy A X A0 v r a1 _ rfl) (cwV 1 hts gX8_fetch_X8_isSet rfl rfl rfl (by decide +kernel) ⟨Nat.le_of_ble_eq_true rfl, Nat.le_of_ble_eq_true rfl⟩) hI hK hN (ci := 7) rfl (atM_0) rfl rfl hl.1 rfl (Nat.le_of_ble_eq_true rfl) dX8_fetch_12 ⟨Nat.zero_le _, Nat.zero_le _⟩ ?_
    refine lv_if_ne (tgt := 21) hx hb dX8_fetch_15 (by decide) (fun c3 => ?_) (fun c3 => ?_)
    · replace hres := (if_pos (bI_t c3)).symm.trans hres
      refine lv_iload_n hx hb dX8_fetch_21 rfl (lv_at hl 1 rfl) ?_
      refine lv_aload_n hx hb dX8_fetch_22 rfl (lv_at hl 0 rfl) ?_
      refine gM_thereNow hx hb hts in8 hown hK hI (hts (.fieldLink RX8 116 "TrickHouseModel" "thereNow" "I") (by decide +kernel)) dX8_fetch_23 ?_
      refine lv_iconst (v := (-1)) hx hb dX8_fetch_26 (by decide) ?_
      refine lv_ixor hx hb dX8_fetch_27 ?_
      refine lv_iand hx hb dX8_fetch_28 ?_
      refine lv_if_ne (tgt := 41) hx hb dX8_fetch_29 (by decide) (fun c4 => ?_) (fun c4 => ?_)
      · replace hres := (if_neg c4).symm.trans hres
        refine lv_bipush (v := (-3)) hx hb dX8_fetch_41 (by decide) ?_
        obtain rfl := Option.some.inj hres
        exact W.iret hx hb hr (fun t ht hW => ⟨rfl, ht⟩) (fun _ h => absurd h List.not_mem_nil) dX8_fetch_43
      · replace hres := (if_pos c4).symm.trans hres
        refine lv_aload_n hx hb dX8_fetch_32 rfl (lv_at hl 0 rfl) ?_
        refine lv_iload_n hx hb dX8_fetch_33 rfl (lv_at hl 1 rfl) ?_
        refine lv_iconst (v := 0) hx hb dX8_fetch_34 (by decide) ?_
        obtain ⟨y5, e5, hres⟩ := bd hres
        refine ro_v S (c_X8_fewestFor l D cy A X A0 v r a1 (0 : Int32) y5 e5) (cwV 2 hts gX8_fetch_X8_fewestFor rfl rfl rfl (by decide +kernel) ⟨Nat.le_of_ble_eq_true rfl, Nat.le_of_ble_eq_true rfl⟩) hI hK hN (ci := 7) rfl (atM_0) rfl rfl hl.1 rfl (Nat.le_of_ble_eq_true rfl) dX8_fetch_35 ⟨Nat.zero_le _, Nat.zero_le _⟩ ?_
        refine lv_goto (tgt := 43) hx hb dX8_fetch_38 (by decide) ?_
        obtain rfl := Option.some.inj hres
        exact W.iret hx hb hr (fun t ht hW => ⟨rfl, ht⟩) (fun _ h => absurd h List.not_mem_nil) dX8_fetch_43
    · replace hres := (if_neg (bI_f c3)).symm.trans hres
      refine lv_bipush (v := (-2)) hx hb dX8_fetch_18 (by decide) ?_
      obtain rfl := Option.some.inj hres
      exact W.iret hx hb hr (fun t ht hW => ⟨rfl, ht⟩) (fun _ h => absurd h List.not_mem_nil) dX8_fetch_20
  · replace hres := (if_pos c1).symm.trans hres
    refine lv_bipush (v := (-3)) hx hb dX8_fetch_7 (by decide) ?_
    obtain rfl := Option.some.inj hres
    exact W.iret hx hb hr (fun t ht hW => ⟨rfl, ht⟩) (fun _ h => absurd h List.not_mem_nil) dX8_fetch_9
abbrev rm_X8_lure : Room := { frames := 4, cells := 0, slots := 0, locals := 95 }
def f_X8_lure (v : Nat → Int32) (r : Nat → Nat → Int32) (a1 : Int32) : Option Int32 := (if (f_X8_isArticle v r a1) = true then (if (f_X8_isOf (v 5) a1) = true then (f_X8_fewestFor v r ((1 : Int32) <<< (a1 &&& 31)) ((1 : Int32) <<< (a1 &&& 31))).bind (fun y5 => some (y5)) else some ((-3))) else some ((-1)))
set_option maxHeartbeats 4000000 in
set_option maxRecDepth 100000 in
theorem c_X8_lure (l : Launch) (D : va_G) (cy : Nat → ClassId) (A : Nat → Nat) (X : va_W) (A0 : Nat → Prop) (v : Nat → Int32) (r : Nat → Nat → Int32) (a1 : Int32) (res : Int32) (hres : f_X8_lure v r a1 = some res) : Met l yX8_lure wsX8_lure rm_X8_lure (va_Pc [.ref (A 0), .int a1] (GW D (tyM cy) (pcM cy A v r ++ X) A0)) (QR (.int res)) 0 0 (fun _ => False) := by
  refine Met.ofW (cc := cX8_lure) (maxL := 2) (ret := (some .int)) (by decide) rfl ?_
  intro p e s m args below meth c s₁ B hml hv
  obtain ⟨hargs, hP, hK, hD0, hN⟩ := hv
  have hx := B.exec
  have hb := B.bytes
  have hr := B.returns
  have hts := atoms_spec (ws := wsX8_lure) B.pre
  have hown : s.vm.findClass RX8 = some m.cls := findClass_of_methodNamed B.named
  have hlocks := B.notSynchronized
  have hI : IW D (pcM cy A v r ++ X) A0 s.heap s.heap [] := ⟨hP, hD0, va_S.rf⟩
  have S : CallFix p m c cX8_lure 2 s args wsX8_lure RX8 := ⟨hx, hb, hml, hown, hts⟩
  have in8 : ∀ w ∈ wsX80, w ∈ wsX8_lure := fun _ h => List.mem_cons_of_mem _ (List.mem_append_right _ h)
  have hl := lv_entry ([.ref (A 0), .int a1]) (n := 2) (Nat.le_of_ble_eq_true rfl)
  have hE : entryFrame m args 2 = F0 m 0 ((lg_sl ([.ref (A 0), .int a1]) ++ List.replicate (2 - (lg_sl ([.ref (A 0), .int a1])).length) Slot.unset).toArray) [] := by rw [hargs]; exact lg_entry_eq m [.ref (A 0), .int a1] 2
  rw [hE]
  generalize (lg_sl ([.ref (A 0), .int a1]) ++ List.replicate (2 - (lg_sl ([.ref (A 0), .int a1])).length) Slot.unset).toArray = ls at hl ⊢
  have hl : lv_has ls 2 [(0, .ref (A 0)), (1, .int a1)] := hl
  unfold f_X8_lure at hres
  refine lv_aload_n hx hb dX8_lure_0 rfl (lv_at hl 0 rfl) ?_
  refine lv_iload_n hx hb dX8_lure_1 rfl (lv_at hl 1 rfl) ?_
  refine ro_v S (c_X8_isArticle l D cy A X A0 v r a1 _ rfl) (cwV 1 hts gX8_lure_X8_isArticle rfl rfl rfl (by decide +kernel) ⟨Nat.le_of_ble_eq_true rfl, Nat.le_of_ble_eq_true rfl⟩) hI hK hN (ci := 7) rfl (atM_0) rfl rfl hl.1 rfl (Nat.le_of_ble_eq_true rfl) dX8_lure_2 ⟨Nat.zero_le _, Nat.zero_le _⟩ ?_
  refine lv_if_ne (tgt := 10) hx hb dX8_lure_5 (by decide) (fun c2 => ?_) (fun c2 => ?_)
  · replace hres := (if_pos (bI_t c2)).symm.trans hres
    refine lv_aload_n hx hb dX8_lure_10 rfl (lv_at hl 0 rfl) ?_
    refine gM_thereNow hx hb hts in8 hown hK hI (hts (.fieldLink RX8 116 "TrickHouseModel" "thereNow" "I") (by decide +kernel)) dX8_lure_11 ?_
    refine lv_iload_n hx hb dX8_lure_14 rfl (lv_at hl 1 rfl) ?_
    refine pu_s S (c_X8_isOf l (v 5) a1 _ rfl) (va_cwS 2 hts gX8_lure_X8_isOf rfl rfl rfl (by decide +kernel) ⟨Nat.le_of_ble_eq_true rfl, Nat.le_of_ble_eq_true rfl⟩) hN rfl hl.1 rfl (Nat.le_of_ble_eq_true rfl) dX8_lure_15 ⟨Nat.zero_le _, Nat.zero_le _⟩ ?_
    refine lv_if_eq (tgt := 34) hx hb dX8_lure_18 (by decide) (fun c4 => ?_) (fun c4 => ?_)
    · replace hres := (if_neg (bI_f c4)).symm.trans hres
      refine lv_bipush (v := (-3)) hx hb dX8_lure_34 (by decide) ?_
      obtain rfl := Option.some.inj hres
      exact W.iret hx hb hr (fun t ht hW => ⟨rfl, ht⟩) (fun _ h => absurd h List.not_mem_nil) dX8_lure_36
    · replace hres := (if_pos (bI_t c4)).symm.trans hres
      refine lv_aload_n hx hb dX8_lure_21 rfl (lv_at hl 0 rfl) ?_
      refine lv_iconst (v := 1) hx hb dX8_lure_22 (by decide) ?_
      refine lv_iload_n hx hb dX8_lure_23 rfl (lv_at hl 1 rfl) ?_
      refine lv_ishl hx hb dX8_lure_24 ?_
      refine lv_iconst (v := 1) hx hb dX8_lure_25 (by decide) ?_
      refine lv_iload_n hx hb dX8_lure_26 rfl (lv_at hl 1 rfl) ?_
      refine lv_ishl hx hb dX8_lure_27 ?_
      obtain ⟨y5, e5, hres⟩ := bd hres
      refine ro_v S (c_X8_fewestFor l D cy A X A0 v r ((1 : Int32) <<< (a1 &&& 31)) ((1 : Int32) <<< (a1 &&& 31)) y5 e5) (cwV 2 hts gX8_lure_X8_fewestFor rfl rfl rfl (by decide +kernel) ⟨Nat.le_of_ble_eq_true rfl, Nat.le_of_ble_eq_true rfl⟩) hI hK hN (ci := 7) rfl (atM_0) rfl rfl hl.1 rfl (Nat.le_of_ble_eq_true rfl) dX8_lure_28 ⟨Nat.zero_le _, Nat.zero_le _⟩ ?_
      refine lv_goto (tgt := 36) hx hb dX8_lure_31 (by decide) ?_
      obtain rfl := Option.some.inj hres
      exact W.iret hx hb hr (fun t ht hW => ⟨rfl, ht⟩) (fun _ h => absurd h List.not_mem_nil) dX8_lure_36
  · replace hres := (if_neg (bI_f c2)).symm.trans hres
    refine lv_iconst (v := (-1)) hx hb dX8_lure_8 (by decide) ?_
    obtain rfl := Option.some.inj hres
    exact W.iret hx hb hr (fun t ht hW => ⟨rfl, ht⟩) (fun _ h => absurd h List.not_mem_nil) dX8_lure_9
abbrev rm_X8_reading : Room := { frames := 2, cells := 0, slots := 0, locals := 42 }
def f_X8_reading (v : Nat → Int32) (r : Nat → Nat → Int32) (a1 : Int32) (a2 : Int32) : Option (Int32 × ST) := (if (f_X8_isCorner a1) = true then (if (f_X8_within a2 (0 : Int32) (99 : Int32)) = true then (if (v 4) = 0 then some ((-3), (v, r)) else (if (v 13) = 8 then some ((-4), (v, r)) else if inR (v 13) 8 = true then if inR (v 13) 8 = true then some ((((upd v 13 ((v 13) + 1)) 13) - 1), ((upd v 13 ((v 13) + 1)), (va_up (va_up r 16 (upd (r 16) (v 13).toNatClampNeg a1)) 17 (upd ((va_up r 16 (upd (r 16) (v 13).toNatClampNeg a1)) 17) (v 13).toNatClampNeg a2)))) else none else none)) else some ((-2), (v, r))) else some ((-2), (v, r)))
set_option maxHeartbeats 4000000 in
set_option maxRecDepth 100000 in
theorem c_X8_reading (l : Launch) (D : va_G) (cy : Nat → ClassId) (A : Nat → Nat) (X : va_W) (A0 : Nat → Prop) (v : Nat → Int32) (r : Nat → Nat → Int32) (a1 : Int32) (a2 : Int32) (res : Int32) (v2 : Nat → Int32) (r2 : Nat → Nat → Int32) (hres : f_X8_reading v r a1 a2 = some (res, (v2, r2))) : Met l yX8_reading wsX8_reading rm_X8_reading (va_Pc [.ref (A 0), .int a1, .int a2] (GW D (tyM cy) (pcM cy A v r ++ X) A0)) (QW (some (.int res)) (GW D (tyM cy) (pcM cy A v2 r2 ++ X) A0) A0) 0 0 A0 := by
  refine Met.ofW (cc := cX8_reading) (maxL := 3) (ret := (some .int)) (by decide) rfl ?_
  intro p e s m args below meth c s₁ B hml hv
  obtain ⟨hargs, hP, hK, hD0, hN⟩ := hv
  have hx := B.exec
  have hb := B.bytes
  have hr := B.returns
  have hts := atoms_spec (ws := wsX8_reading) B.pre
  have hown : s.vm.findClass RX8 = some m.cls := findClass_of_methodNamed B.named
  have hlocks := B.notSynchronized
  have hI : IW D (pcM cy A v r ++ X) A0 s.heap s.heap [] := ⟨hP, hD0, va_S.rf⟩
  have S : CallFix p m c cX8_reading 3 s args wsX8_reading RX8 := ⟨hx, hb, hml, hown, hts⟩
  have in8 : ∀ w ∈ wsX80, w ∈ wsX8_reading := fun _ h => List.mem_cons_of_mem _ (List.mem_append_right _ h)
  have hl := lv_entry ([.ref (A 0), .int a1, .int a2]) (n := 3) (Nat.le_of_ble_eq_true rfl)
  have hE : entryFrame m args 3 = F0 m 0 ((lg_sl ([.ref (A 0), .int a1, .int a2]) ++ List.replicate (3 - (lg_sl ([.ref (A 0), .int a1, .int a2])).length) Slot.unset).toArray) [] := by rw [hargs]; exact lg_entry_eq m [.ref (A 0), .int a1, .int a2] 3
  rw [hE]
  generalize (lg_sl ([.ref (A 0), .int a1, .int a2]) ++ List.replicate (3 - (lg_sl ([.ref (A 0), .int a1, .int a2])).length) Slot.unset).toArray = ls at hl ⊢
  have hl : lv_has ls 3 [(0, .ref (A 0)), (1, .int a1), (2, .int a2)] := hl
  unfold f_X8_reading at hres
  refine lv_iload_n hx hb dX8_reading_0 rfl (lv_at hl 1 rfl) ?_
  refine pu_s S (c_X8_isCorner l a1 _ rfl) (va_cwS 1 hts gX8_reading_X8_isCorner rfl rfl rfl (by decide +kernel) ⟨Nat.le_of_ble_eq_true rfl, Nat.le_of_ble_eq_true rfl⟩) hN rfl hl.1 rfl (Nat.le_of_ble_eq_true rfl) dX8_reading_1 ⟨Nat.zero_le _, Nat.zero_le _⟩ ?_
  refine lv_if_eq (tgt := 17) hx hb dX8_reading_4 (by decide) (fun c2 => ?_) (fun c2 => ?_)
  · replace hres := (if_neg (bI_f c2)).symm.trans hres
    refine lv_bipush (v := (-2)) hx hb dX8_reading_17 (by decide) ?_
    obtain ⟨rfl, rfl, rfl⟩ := pr3 hres
    exact W.iret hx hb hr (fun t ht hW => ⟨rfl, ⟨by rw [ht]; exact hI.1, va_K.moved hW.alike hK, hI.2.1, NW.warm hW hN⟩, hI.2.2.F ht⟩) hI.2.2.2.2 dX8_reading_19
  · replace hres := (if_pos (bI_t c2)).symm.trans hres
    refine lv_iload_n hx hb dX8_reading_7 rfl (lv_at hl 2 rfl) ?_
    refine lv_iconst (v := 0) hx hb dX8_reading_8 (by decide) ?_
    refine lv_bipush (v := 99) hx hb dX8_reading_9 (by decide) ?_
    refine pu_s S (c_X8_within l a2 (0 : Int32) (99 : Int32) _ rfl) (va_cwS 3 hts gX8_reading_X8_within rfl rfl rfl (by decide +kernel) ⟨Nat.le_of_ble_eq_true rfl, Nat.le_of_ble_eq_true rfl⟩) hN rfl hl.1 rfl (Nat.le_of_ble_eq_true rfl) dX8_reading_11 ⟨Nat.zero_le _, Nat.zero_le _⟩ ?_
    refine lv_if_ne (tgt := 20) hx hb dX8_reading_14 (by decide) (fun c4 => ?_) (fun c4 => ?_)
    · replace hres := (if_pos (bI_t c4)).symm.trans hres
      refine lv_aload_n hx hb dX8_reading_20 rfl (lv_at hl 0 rfl) ?_
      refine gM_articles hx hb hts in8 hown hK hI (hts (.fieldLink RX8 74 "TrickHouseModel" "articles" "I") (by decide +kernel)) dX8_reading_21 ?_
      refine lv_if_ne (tgt := 30) hx hb dX8_reading_24 (by decide) (fun c5 => ?_) (fun c5 => ?_)
      · replace hres := (if_neg c5).symm.trans hres
        refine lv_aload_n hx hb dX8_reading_30 rfl (lv_at hl 0 rfl) ?_
        refine gM_readings hx hb hts in8 hown hK hI (hts (.fieldLink RX8 119 "TrickHouseModel" "readings" "I") (by decide +kernel)) dX8_reading_31 ?_
        refine lv_bipush (v := 8) hx hb dX8_reading_34 (by decide) ?_
        refine lv_icmp_ne (tgt := 42) hx hb dX8_reading_36 (by decide) (fun c6 => ?_) (fun c6 => ?_)
        · replace hres := (if_neg c6).symm.trans hres
          refine lv_aload_n hx hb dX8_reading_42 rfl (lv_at hl 0 rfl) ?_
          refine gM_readCorner hx hb hts in8 hown hK hI (hts (.fieldLink RX8 58 "TrickHouseModel" "readCorner" "[I") (by decide +kernel)) dX8_reading_43 ?_
          refine lv_aload_n hx hb dX8_reading_46 rfl (lv_at hl 0 rfl) ?_
          refine gM_readings hx hb hts in8 hown hK hI (hts (.fieldLink RX8 119 "TrickHouseModel" "readings" "I") (by decide +kernel)) dX8_reading_47 ?_
          refine lv_iload_n hx hb dX8_reading_50 rfl (lv_at hl 1 rfl) ?_
          obtain ⟨g7, hres⟩ := gd hres
          refine th_ist hx hb hK hI 17 0 rfl rfl g7 stM_r17 dX8_reading_51 (fun H locs hI => ?_)
          refine lv_aload_n hx hb dX8_reading_52 rfl (lv_at hl 0 rfl) ?_
          refine gM_readHeard hx hb hts in8 hown hK hI (hts (.fieldLink RX8 61 "TrickHouseModel" "readHeard" "[I") (by decide +kernel)) dX8_reading_53 ?_
          refine lv_aload_n hx hb dX8_reading_56 rfl (lv_at hl 0 rfl) ?_
          refine gM_readings hx hb hts in8 hown hK hI (hts (.fieldLink RX8 119 "TrickHouseModel" "readings" "I") (by decide +kernel)) dX8_reading_57 ?_
          refine lv_iload_n hx hb dX8_reading_60 rfl (lv_at hl 2 rfl) ?_
          obtain ⟨g8, hres⟩ := gd hres
          refine th_ist hx hb hK hI 18 0 rfl rfl g8 stM_r18 dX8_reading_61 (fun H locs hI => ?_)
          refine lv_aload_n hx hb dX8_reading_62 rfl (lv_at hl 0 rfl) ?_
          refine lv_dup hx hb dX8_reading_63 rfl ?_
          refine gM_readings hx hb hts in8 hown hK hI (hts (.fieldLink RX8 119 "TrickHouseModel" "readings" "I") (by decide +kernel)) dX8_reading_64 ?_
          refine lv_iconst (v := 1) hx hb dX8_reading_67 (by decide) ?_
          refine lv_iadd hx hb dX8_reading_68 ?_
          refine pM_readings hx hb hts in8 hown hK hI (hts (.fieldLink RX8 119 "TrickHouseModel" "readings" "I") (by decide +kernel)) dX8_reading_69 (fun H locs hI => ?_)
          refine lv_aload_n hx hb dX8_reading_72 rfl (lv_at hl 0 rfl) ?_
          refine gM_readings hx hb hts in8 hown hK hI (hts (.fieldLink RX8 119 "TrickHouseModel" "readings" "I") (by decide +kernel)) dX8_reading_73 ?_
          refine lv_iconst (v := 1) hx hb dX8_reading_76 (by decide) ?_
          refine lv_isub hx hb dX8_reading_77 ?_
          obtain ⟨rfl, rfl, rfl⟩ := pr3 hres
          exact W.iret hx hb hr (fun t ht hW => ⟨rfl, ⟨by rw [ht]; exact hI.1, va_K.moved hW.alike hK, hI.2.1, NW.warm hW hN⟩, hI.2.2.F ht⟩) hI.2.2.2.2 dX8_reading_78
        · replace hres := (if_pos c6).symm.trans hres
          refine lv_bipush (v := (-4)) hx hb dX8_reading_39 (by decide) ?_
          obtain ⟨rfl, rfl, rfl⟩ := pr3 hres
          exact W.iret hx hb hr (fun t ht hW => ⟨rfl, ⟨by rw [ht]; exact hI.1, va_K.moved hW.alike hK, hI.2.1, NW.warm hW hN⟩, hI.2.2.F ht⟩) hI.2.2.2.2 dX8_reading_41
      · replace hres := (if_pos c5).symm.trans hres
        refine lv_bipush (v := (-3)) hx hb dX8_reading_27 (by decide) ?_
        obtain ⟨rfl, rfl, rfl⟩ := pr3 hres
        exact W.iret hx hb hr (fun t ht hW => ⟨rfl, ⟨by rw [ht]; exact hI.1, va_K.moved hW.alike hK, hI.2.1, NW.warm hW hN⟩, hI.2.2.F ht⟩) hI.2.2.2.2 dX8_reading_29
    · replace hres := (if_neg (bI_f c4)).symm.trans hres
      refine lv_bipush (v := (-2)) hx hb dX8_reading_17 (by decide) ?_
      obtain ⟨rfl, rfl, rfl⟩ := pr3 hres
      exact W.iret hx hb hr (fun t ht hW => ⟨rfl, ⟨by rw [ht]; exact hI.1, va_K.moved hW.alike hK, hI.2.1, NW.warm hW hN⟩, hI.2.2.F ht⟩) hI.2.2.2.2 dX8_reading_19
abbrev rm_X8_back : Room := { frames := 1, cells := 0, slots := 0, locals := 22 }
def f_X8_back (v : Nat → Int32) (r : Nat → Nat → Int32) (a1 : Int32) : Option (Int32 × ST) := (if (f_X8_within a1 (0 : Int32) (v 13)) = true then some (((upd v 13 ((v 13) - a1)) 13), ((upd v 13 ((v 13) - a1)), r)) else some ((-2), (v, r)))
set_option maxHeartbeats 4000000 in
set_option maxRecDepth 100000 in
theorem c_X8_back (l : Launch) (D : va_G) (cy : Nat → ClassId) (A : Nat → Nat) (X : va_W) (A0 : Nat → Prop) (v : Nat → Int32) (r : Nat → Nat → Int32) (a1 : Int32) (res : Int32) (v2 : Nat → Int32) (r2 : Nat → Nat → Int32) (hres : f_X8_back v r a1 = some (res, (v2, r2))) : Met l yX8_back wsX8_back rm_X8_back (va_Pc [.ref (A 0), .int a1] (GW D (tyM cy) (pcM cy A v r ++ X) A0)) (QW (some (.int res)) (GW D (tyM cy) (pcM cy A v2 r2 ++ X) A0) A0) 0 0 A0 := by
  refine Met.ofW (cc := cX8_back) (maxL := 2) (ret := (some .int)) (by decide) rfl ?_
  intro p e s m args below meth c s₁ B hml hv
  obtain ⟨hargs, hP, hK, hD0, hN⟩ := hv
  have hx := B.exec
  have hb := B.bytes
  have hr := B.returns
  have hts := atoms_spec (ws := wsX8_back) B.pre
  have hown : s.vm.findClass RX8 = some m.cls := findClass_of_methodNamed B.named
  have hlocks := B.notSynchronized
  have hI : IW D (pcM cy A v r ++ X) A0 s.heap s.heap [] := ⟨hP, hD0, va_S.rf⟩
  have S : CallFix p m c cX8_back 2 s args wsX8_back RX8 := ⟨hx, hb, hml, hown, hts⟩
  have in8 : ∀ w ∈ wsX80, w ∈ wsX8_back := fun _ h => List.mem_cons_of_mem _ (List.mem_append_right _ h)
  have hl := lv_entry ([.ref (A 0), .int a1]) (n := 2) (Nat.le_of_ble_eq_true rfl)
  have hE : entryFrame m args 2 = F0 m 0 ((lg_sl ([.ref (A 0), .int a1]) ++ List.replicate (2 - (lg_sl ([.ref (A 0), .int a1])).length) Slot.unset).toArray) [] := by rw [hargs]; exact lg_entry_eq m [.ref (A 0), .int a1] 2
  rw [hE]
  generalize (lg_sl ([.ref (A 0), .int a1]) ++ List.replicate (2 - (lg_sl ([.ref (A 0), .int a1])).length) Slot.unset).toArray = ls at hl ⊢
  have hl : lv_has ls 2 [(0, .ref (A 0)), (1, .int a1)] := hl
  unfold f_X8_back at hres
  refine lv_iload_n hx hb dX8_back_0 rfl (lv_at hl 1 rfl) ?_
  refine lv_iconst (v := 0) hx hb dX8_back_1 (by decide) ?_
  refine lv_aload_n hx hb dX8_back_2 rfl (lv_at hl 0 rfl) ?_
  refine gM_readings hx hb hts in8 hown hK hI (hts (.fieldLink RX8 119 "TrickHouseModel" "readings" "I") (by decide +kernel)) dX8_back_3 ?_
  refine pu_s S (c_X8_within l a1 (0 : Int32) (v 13) _ rfl) (va_cwS 3 hts gX8_back_X8_within rfl rfl rfl (by decide +kernel) ⟨Nat.le_of_ble_eq_true rfl, Nat.le_of_ble_eq_true rfl⟩) hN rfl hl.1 rfl (Nat.le_of_ble_eq_true rfl) dX8_back_6 ⟨Nat.zero_le _, Nat.zero_le _⟩ ?_
  refine lv_if_ne (tgt := 15) hx hb dX8_back_9 (by decide) (fun c2 => ?_) (fun c2 => ?_)
  · replace hres := (if_pos (bI_t c2)).symm.trans hres
    refine lv_aload_n hx hb dX8_back_15 rfl (lv_at hl 0 rfl) ?_
    refine lv_dup hx hb dX8_back_16 rfl ?_
    refine gM_readings hx hb hts in8 hown hK hI (hts (.fieldLink RX8 119 "TrickHouseModel" "readings" "I") (by decide +kernel)) dX8_back_17 ?_
    refine lv_iload_n hx hb dX8_back_20 rfl (lv_at hl 1 rfl) ?_
    refine lv_isub hx hb dX8_back_21 ?_
    refine pM_readings hx hb hts in8 hown hK hI (hts (.fieldLink RX8 119 "TrickHouseModel" "readings" "I") (by decide +kernel)) dX8_back_22 (fun H locs hI => ?_)
    refine lv_aload_n hx hb dX8_back_25 rfl (lv_at hl 0 rfl) ?_
    refine gM_readings hx hb hts in8 hown hK hI (hts (.fieldLink RX8 119 "TrickHouseModel" "readings" "I") (by decide +kernel)) dX8_back_26 ?_
    obtain ⟨rfl, rfl, rfl⟩ := pr3 hres
    exact W.iret hx hb hr (fun t ht hW => ⟨rfl, ⟨by rw [ht]; exact hI.1, va_K.moved hW.alike hK, hI.2.1, NW.warm hW hN⟩, hI.2.2.F ht⟩) hI.2.2.2.2 dX8_back_29
  · replace hres := (if_neg (bI_f c2)).symm.trans hres
    refine lv_bipush (v := (-2)) hx hb dX8_back_12 (by decide) ?_
    obtain ⟨rfl, rfl, rfl⟩ := pr3 hres
    exact W.iret hx hb hr (fun t ht hW => ⟨rfl, ⟨by rw [ht]; exact hI.1, va_K.moved hW.alike hK, hI.2.1, NW.warm hW hN⟩, hI.2.2.F ht⟩) hI.2.2.2.2 dX8_back_14
abbrev rm_X8_areSo : Room := { frames := 3, cells := 0, slots := 0, locals := 67 }
def f_X8_areSo_2 (v : Nat → Int32) (r : Nat → Nat → Int32) : Nat → Int32 → Option Bool
  | 0, _ => none
  | n2 + 1, x1 => (if (v 13) ≤ x1 then some (true) else if inR x1 8 = true then (f_X8_heardAt v r (r 16 x1.toNatClampNeg)).bind (fun y3 => if inR x1 8 = true then (if y3 = (r 17 x1.toNatClampNeg) then f_X8_areSo_2 v r n2 (x1 + 1) else some (false)) else none) else none)
theorem f_X8_areSo_2_s (v : Nat → Int32) (r : Nat → Nat → Int32) (n2 : Nat) (x1 : Int32) : f_X8_areSo_2 v r (n2 + 1) x1 = (if (v 13) ≤ x1 then some (true) else if inR x1 8 = true then (f_X8_heardAt v r (r 16 x1.toNatClampNeg)).bind (fun y3 => if inR x1 8 = true then (if y3 = (r 17 x1.toNatClampNeg) then f_X8_areSo_2 v r n2 (x1 + 1) else some (false)) else none) else none) := rfl
def f_X8_areSo (v : Nat → Int32) (r : Nat → Nat → Int32) : Option Bool := f_X8_areSo_2 v r 80 (0 : Int32)
set_option maxHeartbeats 4000000 in
set_option maxRecDepth 100000 in
theorem c_X8_areSo (l : Launch) (D : va_G) (cy : Nat → ClassId) (A : Nat → Nat) (X : va_W) (A0 : Nat → Prop) (v : Nat → Int32) (r : Nat → Nat → Int32) (res : Bool) (hres : f_X8_areSo v r = some res) : Met l yX8_areSo wsX8_areSo rm_X8_areSo (va_Pc [.ref (A 0)] (GW D (tyM cy) (pcM cy A v r ++ X) A0)) (QR (.int (bI res))) 0 0 (fun _ => False) := by
  refine Met.ofW (cc := cX8_areSo) (maxL := 2) (ret := (some .boolean)) (by decide) rfl ?_
  intro p e s m args below meth c s₁ B hml hv
  obtain ⟨hargs, hP, hK, hD0, hN⟩ := hv
  have hx := B.exec
  have hb := B.bytes
  have hr := B.returns
  have hts := atoms_spec (ws := wsX8_areSo) B.pre
  have hown : s.vm.findClass RX8 = some m.cls := findClass_of_methodNamed B.named
  have hlocks := B.notSynchronized
  have hI : IW D (pcM cy A v r ++ X) A0 s.heap s.heap [] := ⟨hP, hD0, va_S.rf⟩
  have S : CallFix p m c cX8_areSo 2 s args wsX8_areSo RX8 := ⟨hx, hb, hml, hown, hts⟩
  have in8 : ∀ w ∈ wsX80, w ∈ wsX8_areSo := fun _ h => List.mem_cons_of_mem _ (List.mem_append_right _ h)
  have hl := lv_entry ([.ref (A 0)]) (n := 2) (Nat.le_of_ble_eq_true rfl)
  have hE : entryFrame m args 2 = F0 m 0 ((lg_sl ([.ref (A 0)]) ++ List.replicate (2 - (lg_sl ([.ref (A 0)])).length) Slot.unset).toArray) [] := by rw [hargs]; exact lg_entry_eq m [.ref (A 0)] 2
  rw [hE]
  generalize (lg_sl ([.ref (A 0)]) ++ List.replicate (2 - (lg_sl ([.ref (A 0)])).length) Slot.unset).toArray = ls at hl ⊢
  have hl : lv_has ls 2 [(0, .ref (A 0))] := hl
  unfold f_X8_areSo at hres
  refine lv_iconst (v := 0) hx hb dX8_areSo_0 (by decide) ?_
  refine lv_istore_n (lv' := [(1, .int 0), (0, .ref (A 0))]) hx hb dX8_areSo_1 rfl hl (by decide) rfl (fun ls hl => ?_)
  have w2 : ∀ (n2 : Nat) (x1 : Int32), f_X8_areSo_2 v r n2 x1 = some res → ∀ ls : Array Slot, lv_has ls 2 [(1, .int x1), (0, .ref (A 0))] → W p l e (headSpec wsX8_areSo rm_X8_areSo).room s m args below meth c s.heap [] 0 0 (MQ below (QR (.int (bI res))) args s 0 0 (fun _ => False)) (F0 m 2 ls []) := by
    intro n2
    induction n2 with
    | zero =>
      intro x1  hres
      have hres : (none : Option Bool) = some res := hres
      cases hres
    | succ n2 ih2 =>
      intro x1  hres ls hl
      replace hres := (f_X8_areSo_2_s v r n2 x1).symm.trans hres
      refine lv_iload_n hx hb dX8_areSo_2 rfl (lv_at hl 0 rfl) ?_
      refine lv_aload_n hx hb dX8_areSo_3 rfl (lv_at hl 1 rfl) ?_
      refine gM_readings hx hb hts in8 hown hK hI (hts (.fieldLink RX8 119 "TrickHouseModel" "readings" "I") (by decide +kernel)) dX8_areSo_4 ?_
      refine lv_icmp_ge (tgt := 37) hx hb dX8_areSo_7 (by decide) (fun c1 => ?_) (fun c1 => ?_)
      · replace hres := (if_pos c1).symm.trans hres
        refine lv_iconst (v := 1) hx hb dX8_areSo_37 (by decide) ?_
        obtain rfl := Option.some.inj hres
        exact W.zret hx hb hr rfl (fun t ht hW => ⟨rfl, ht⟩) (fun _ h => absurd h List.not_mem_nil) dX8_areSo_38
      · replace hres := (if_neg c1).symm.trans hres
        refine lv_aload_n hx hb dX8_areSo_10 rfl (lv_at hl 1 rfl) ?_
        refine lv_aload_n hx hb dX8_areSo_11 rfl (lv_at hl 1 rfl) ?_
        refine gM_readCorner hx hb hts in8 hown hK hI (hts (.fieldLink RX8 58 "TrickHouseModel" "readCorner" "[I") (by decide +kernel)) dX8_areSo_12 ?_
        refine lv_iload_n hx hb dX8_areSo_15 rfl (lv_at hl 0 rfl) ?_
        obtain ⟨g2, hres⟩ := gd hres
        refine th_ild hx hb hK hI 17 0 rfl rfl g2 dX8_areSo_16 ?_
        obtain ⟨y3, e3, hres⟩ := bd hres
        refine ro_v S (c_X8_heardAt l D cy A X A0 v r (r 16 x1.toNatClampNeg) y3 e3) (cwV 1 hts gX8_areSo_X8_heardAt rfl rfl rfl (by decide +kernel) ⟨Nat.le_of_ble_eq_true rfl, Nat.le_of_ble_eq_true rfl⟩) hI hK hN (ci := 7) rfl (atM_0) rfl rfl hl.1 rfl (Nat.le_of_ble_eq_true rfl) dX8_areSo_17 ⟨Nat.zero_le _, Nat.zero_le _⟩ ?_
        refine lv_aload_n hx hb dX8_areSo_20 rfl (lv_at hl 1 rfl) ?_
        refine gM_readHeard hx hb hts in8 hown hK hI (hts (.fieldLink RX8 61 "TrickHouseModel" "readHeard" "[I") (by decide +kernel)) dX8_areSo_21 ?_
        refine lv_iload_n hx hb dX8_areSo_24 rfl (lv_at hl 0 rfl) ?_
        obtain ⟨g4, hres⟩ := gd hres
        refine th_ild hx hb hK hI 18 0 rfl rfl g4 dX8_areSo_25 ?_
        refine lv_icmp_eq (tgt := 31) hx hb dX8_areSo_26 (by decide) (fun c5 => ?_) (fun c5 => ?_)
        · replace hres := (if_pos c5).symm.trans hres
          refine lv_iinc (v := (x1 + 1)) (lv' := [(1, .int (x1 + 1)), (0, .ref (A 0))]) hx hb dX8_areSo_31 hl (k := 0) rfl rfl (by decide) rfl (fun ls hl => ?_)
          refine lv_goto (tgt := 2) hx hb dX8_areSo_34 (by decide) ?_
          exact ih2 (x1 + 1) hres ls (lv_sub hl [0, 1] rfl)
        · replace hres := (if_neg c5).symm.trans hres
          refine lv_iconst (v := 0) hx hb dX8_areSo_29 (by decide) ?_
          obtain rfl := Option.some.inj hres
          exact W.zret hx hb hr rfl (fun t ht hW => ⟨rfl, ht⟩) (fun _ h => absurd h List.not_mem_nil) dX8_areSo_30
  exact w2 80 (0 : Int32) hres ls (lv_sub hl [0, 1] rfl)
abbrev rm_X8_gaieties : Room := { frames := 4, cells := 0, slots := 0, locals := 88 }
def f_X8_gaieties_22 (a1 : Int32) : Nat → Int32 → Int32 → Int32 → (Nat → Int32) → (Nat → Nat → Int32) → Option (Int32 × ST)
  | 0, _, _, _, _, _ => none
  | n22 + 1, x2, x3, x4, v, r => (if 9 < x4 then if inR a1 6 = true then some (x3, (v, (va_up r 6 (upd (r 6) a1.toNatClampNeg x2)))) else none else if inR a1 6 = true then (f_X8_areSo v (va_up r 6 (upd (r 6) a1.toNatClampNeg x4))).bind (fun y7 => (if y7 = true then f_X8_gaieties_22 a1 n22 x2 (x3 ||| ((1 : Int32) <<< (x4 &&& 31))) (x4 + 1) v (va_up r 6 (upd (r 6) a1.toNatClampNeg x4)) else f_X8_gaieties_22 a1 n22 x2 (x3 ||| 0) (x4 + 1) v (va_up r 6 (upd (r 6) a1.toNatClampNeg x4)))) else none)
theorem f_X8_gaieties_22_s (a1 : Int32) (n22 : Nat) (x2 : Int32) (x3 : Int32) (x4 : Int32) (v : (Nat → Int32)) (r : (Nat → Nat → Int32)) : f_X8_gaieties_22 a1 (n22 + 1) x2 x3 x4 v r = (if 9 < x4 then if inR a1 6 = true then some (x3, (v, (va_up r 6 (upd (r 6) a1.toNatClampNeg x2)))) else none else if inR a1 6 = true then (f_X8_areSo v (va_up r 6 (upd (r 6) a1.toNatClampNeg x4))).bind (fun y7 => (if y7 = true then f_X8_gaieties_22 a1 n22 x2 (x3 ||| ((1 : Int32) <<< (x4 &&& 31))) (x4 + 1) v (va_up r 6 (upd (r 6) a1.toNatClampNeg x4)) else f_X8_gaieties_22 a1 n22 x2 (x3 ||| 0) (x4 + 1) v (va_up r 6 (upd (r 6) a1.toNatClampNeg x4)))) else none) := rfl
def f_X8_gaieties (v : Nat → Int32) (r : Nat → Nat → Int32) (a1 : Int32) : Option (Int32 × ST) := (if (f_X8_isArticle v r a1) = true then if inR a1 6 = true then f_X8_gaieties_22 a1 80 (r 6 a1.toNatClampNeg) (0 : Int32) (0 : Int32) v r else none else some ((-1), (v, r)))
set_option maxHeartbeats 4000000 in
set_option maxRecDepth 100000 in
theorem c_X8_gaieties (l : Launch) (D : va_G) (cy : Nat → ClassId) (A : Nat → Nat) (X : va_W) (A0 : Nat → Prop) (v : Nat → Int32) (r : Nat → Nat → Int32) (a1 : Int32) (res : Int32) (v2 : Nat → Int32) (r2 : Nat → Nat → Int32) (hres : f_X8_gaieties v r a1 = some (res, (v2, r2))) : Met l yX8_gaieties wsX8_gaieties rm_X8_gaieties (va_Pc [.ref (A 0), .int a1] (GW D (tyM cy) (pcM cy A v r ++ X) A0)) (QW (some (.int res)) (GW D (tyM cy) (pcM cy A v2 r2 ++ X) A0) A0) 0 0 A0 := by
  refine Met.ofW (cc := cX8_gaieties) (maxL := 5) (ret := (some .int)) (by decide) rfl ?_
  intro p e s m args below meth c s₁ B hml hv
  obtain ⟨hargs, hP, hK, hD0, hN⟩ := hv
  have hx := B.exec
  have hb := B.bytes
  have hr := B.returns
  have hts := atoms_spec (ws := wsX8_gaieties) B.pre
  have hown : s.vm.findClass RX8 = some m.cls := findClass_of_methodNamed B.named
  have hlocks := B.notSynchronized
  have hI : IW D (pcM cy A v r ++ X) A0 s.heap s.heap [] := ⟨hP, hD0, va_S.rf⟩
  have S : CallFix p m c cX8_gaieties 5 s args wsX8_gaieties RX8 := ⟨hx, hb, hml, hown, hts⟩
  have in8 : ∀ w ∈ wsX80, w ∈ wsX8_gaieties := fun _ h => List.mem_cons_of_mem _ (List.mem_append_right _ h)
  have hl := lv_entry ([.ref (A 0), .int a1]) (n := 5) (Nat.le_of_ble_eq_true rfl)
  have hE : entryFrame m args 5 = F0 m 0 ((lg_sl ([.ref (A 0), .int a1]) ++ List.replicate (5 - (lg_sl ([.ref (A 0), .int a1])).length) Slot.unset).toArray) [] := by rw [hargs]; exact lg_entry_eq m [.ref (A 0), .int a1] 5
  rw [hE]
  generalize (lg_sl ([.ref (A 0), .int a1]) ++ List.replicate (5 - (lg_sl ([.ref (A 0), .int a1])).length) Slot.unset).toArray = ls at hl ⊢
  have hl : lv_has ls 5 [(0, .ref (A 0)), (1, .int a1)] := hl
  unfold f_X8_gaieties at hres
  refine lv_aload_n hx hb dX8_gaieties_0 rfl (lv_at hl 0 rfl) ?_
  refine lv_iload_n hx hb dX8_gaieties_1 rfl (lv_at hl 1 rfl) ?_
  refine ro_v S (c_X8_isArticle l D cy A X A0 v r a1 _ rfl) (cwV 1 hts gX8_gaieties_X8_isArticle rfl rfl rfl (by decide +kernel) ⟨Nat.le_of_ble_eq_true rfl, Nat.le_of_ble_eq_true rfl⟩) hI hK hN (ci := 7) rfl (atM_0) rfl rfl hl.1 rfl (Nat.le_of_ble_eq_true rfl) dX8_gaieties_2 ⟨Nat.zero_le _, Nat.zero_le _⟩ ?_
  refine lv_if_ne (tgt := 10) hx hb dX8_gaieties_5 (by decide) (fun c2 => ?_) (fun c2 => ?_)
  · replace hres := (if_pos (bI_t c2)).symm.trans hres
    refine lv_aload_n hx hb dX8_gaieties_10 rfl (lv_at hl 0 rfl) ?_
    refine gM_gaiety hx hb hts in8 hown hK hI (hts (.fieldLink RX8 28 "TrickHouseModel" "gaiety" "[I") (by decide +kernel)) dX8_gaieties_11 ?_
    refine lv_iload_n hx hb dX8_gaieties_14 rfl (lv_at hl 1 rfl) ?_
    obtain ⟨g3, hres⟩ := gd hres
    refine th_ild hx hb hK hI 7 0 rfl rfl g3 dX8_gaieties_15 ?_
    refine lv_istore_n (lv' := [(2, .int (r 6 a1.toNatClampNeg)), (0, .ref (A 0)), (1, .int a1)]) hx hb dX8_gaieties_16 rfl hl (by decide) rfl (fun ls hl => ?_)
    refine lv_iconst (v := 0) hx hb dX8_gaieties_17 (by decide) ?_
    refine lv_istore_n (lv' := [(3, .int 0), (2, .int (r 6 a1.toNatClampNeg)), (0, .ref (A 0)), (1, .int a1)]) hx hb dX8_gaieties_18 rfl hl (by decide) rfl (fun ls hl => ?_)
    refine lv_iconst (v := 0) hx hb dX8_gaieties_19 (by decide) ?_
    refine lv_istore (lv' := [(4, .int 0), (3, .int 0), (2, .int (r 6 a1.toNatClampNeg)), (0, .ref (A 0)), (1, .int a1)]) hx hb dX8_gaieties_20 hl (by decide) rfl (fun ls hl => ?_)
    have w22 : ∀ (n22 : Nat) (x2 : Int32) (x3 : Int32) (x4 : Int32) (v : (Nat → Int32)) (r : (Nat → Nat → Int32)), ∀ (H : Heap) (locs : List Loc), IW D (pcM cy A v r ++ X) A0 s.heap H locs → f_X8_gaieties_22 a1 n22 x2 x3 x4 v r = some (res, (v2, r2)) → ∀ ls : Array Slot, lv_has ls 5 [(2, .int x2), (3, .int x3), (4, .int x4), (0, .ref (A 0)), (1, .int a1)] → W p l e (headSpec wsX8_gaieties rm_X8_gaieties).room s m args below meth c H locs 0 0 (MQ below (QW (some (.int res)) (GW D (tyM cy) (pcM cy A v2 r2 ++ X) A0) A0) args s 0 0 A0) (F0 m 22 ls []) := by
      intro n22
      induction n22 with
      | zero =>
        intro x2 x3 x4 v r H locs hI hres
        have hres : (none : Option (Int32 × ST)) = some (res, (v2, r2)) := hres
        cases hres
      | succ n22 ih22 =>
        intro x2 x3 x4 v r H locs hI hres ls hl
        replace hres := (f_X8_gaieties_22_s a1 n22 x2 x3 x4 v r).symm.trans hres
        refine lv_iload hx hb dX8_gaieties_22 (lv_at hl 2 rfl) ?_
        refine lv_bipush (v := 9) hx hb dX8_gaieties_24 (by decide) ?_
        refine lv_icmp_gt (tgt := 61) hx hb dX8_gaieties_26 (by decide) (fun c4 => ?_) (fun c4 => ?_)
        · replace hres := (if_pos c4).symm.trans hres
          refine lv_aload_n hx hb dX8_gaieties_61 rfl (lv_at hl 3 rfl) ?_
          refine gM_gaiety hx hb hts in8 hown hK hI (hts (.fieldLink RX8 28 "TrickHouseModel" "gaiety" "[I") (by decide +kernel)) dX8_gaieties_62 ?_
          refine lv_iload_n hx hb dX8_gaieties_65 rfl (lv_at hl 4 rfl) ?_
          refine lv_iload_n hx hb dX8_gaieties_66 rfl (lv_at hl 0 rfl) ?_
          obtain ⟨g5, hres⟩ := gd hres
          refine th_ist hx hb hK hI 7 0 rfl rfl g5 stM_r7 dX8_gaieties_67 (fun H locs hI => ?_)
          refine lv_iload_n hx hb dX8_gaieties_68 rfl (lv_at hl 1 rfl) ?_
          obtain ⟨rfl, rfl, rfl⟩ := pr3 hres
          exact W.iret hx hb hr (fun t ht hW => ⟨rfl, ⟨by rw [ht]; exact hI.1, va_K.moved hW.alike hK, hI.2.1, NW.warm hW hN⟩, hI.2.2.F ht⟩) hI.2.2.2.2 dX8_gaieties_69
        · replace hres := (if_neg c4).symm.trans hres
          refine lv_aload_n hx hb dX8_gaieties_29 rfl (lv_at hl 3 rfl) ?_
          refine gM_gaiety hx hb hts in8 hown hK hI (hts (.fieldLink RX8 28 "TrickHouseModel" "gaiety" "[I") (by decide +kernel)) dX8_gaieties_30 ?_
          refine lv_iload_n hx hb dX8_gaieties_33 rfl (lv_at hl 4 rfl) ?_
          refine lv_iload hx hb dX8_gaieties_34 (lv_at hl 2 rfl) ?_
          obtain ⟨g6, hres⟩ := gd hres
          refine th_ist hx hb hK hI 7 0 rfl rfl g6 stM_r7 dX8_gaieties_36 (fun H locs hI => ?_)
          refine lv_iload_n hx hb dX8_gaieties_37 rfl (lv_at hl 1 rfl) ?_
          refine lv_aload_n hx hb dX8_gaieties_38 rfl (lv_at hl 3 rfl) ?_
          obtain ⟨y7, e7, hres⟩ := bd hres
          refine ro_v S (c_X8_areSo l D cy A X A0 v (va_up r 6 (upd (r 6) a1.toNatClampNeg x4)) y7 e7) (cwV 0 hts gX8_gaieties_X8_areSo rfl rfl rfl (by decide +kernel) ⟨Nat.le_of_ble_eq_true rfl, Nat.le_of_ble_eq_true rfl⟩) hI hK hN (ci := 7) rfl (atM_0) rfl rfl hl.1 rfl (Nat.le_of_ble_eq_true rfl) dX8_gaieties_39 ⟨Nat.zero_le _, Nat.zero_le _⟩ ?_
          refine lv_if_eq (tgt := 52) hx hb dX8_gaieties_42 (by decide) (fun c8 => ?_) (fun c8 => ?_)
          · replace hres := (if_neg (bI_f c8)).symm.trans hres
            refine lv_iconst (v := 0) hx hb dX8_gaieties_52 (by decide) ?_
            refine lv_ior hx hb dX8_gaieties_53 ?_
            refine lv_istore_n (lv' := [(3, .int (x3 ||| 0)), (2, .int x2), (4, .int x4), (0, .ref (A 0)), (1, .int a1)]) hx hb dX8_gaieties_54 rfl hl (by decide) rfl (fun ls hl => ?_)
            refine lv_iinc (v := (x4 + 1)) (lv' := [(4, .int (x4 + 1)), (3, .int (x3 ||| 0)), (2, .int x2), (0, .ref (A 0)), (1, .int a1)]) hx hb dX8_gaieties_55 hl (k := 2) rfl rfl (by decide) rfl (fun ls hl => ?_)
            refine lv_goto (tgt := 22) hx hb dX8_gaieties_58 (by decide) ?_
            exact ih22 x2 (x3 ||| 0) (x4 + 1) v (va_up r 6 (upd (r 6) a1.toNatClampNeg x4)) _ _ hI hres ls (lv_sub hl [2, 1, 0, 3, 4] rfl)
          · replace hres := (if_pos (bI_t c8)).symm.trans hres
            refine lv_iconst (v := 1) hx hb dX8_gaieties_45 (by decide) ?_
            refine lv_iload hx hb dX8_gaieties_46 (lv_at hl 2 rfl) ?_
            refine lv_ishl hx hb dX8_gaieties_48 ?_
            refine lv_goto (tgt := 53) hx hb dX8_gaieties_49 (by decide) ?_
            refine lv_ior hx hb dX8_gaieties_53 ?_
            refine lv_istore_n (lv' := [(3, .int (x3 ||| ((1 : Int32) <<< (x4 &&& 31)))), (2, .int x2), (4, .int x4), (0, .ref (A 0)), (1, .int a1)]) hx hb dX8_gaieties_54 rfl hl (by decide) rfl (fun ls hl => ?_)
            refine lv_iinc (v := (x4 + 1)) (lv' := [(4, .int (x4 + 1)), (3, .int (x3 ||| ((1 : Int32) <<< (x4 &&& 31)))), (2, .int x2), (0, .ref (A 0)), (1, .int a1)]) hx hb dX8_gaieties_55 hl (k := 2) rfl rfl (by decide) rfl (fun ls hl => ?_)
            refine lv_goto (tgt := 22) hx hb dX8_gaieties_58 (by decide) ?_
            exact ih22 x2 (x3 ||| ((1 : Int32) <<< (x4 &&& 31))) (x4 + 1) v (va_up r 6 (upd (r 6) a1.toNatClampNeg x4)) _ _ hI hres ls (lv_sub hl [2, 1, 0, 3, 4] rfl)
    exact w22 80 (r 6 a1.toNatClampNeg) (0 : Int32) (0 : Int32) v r _ _ hI hres ls (lv_sub hl [2, 1, 0, 3, 4] rfl)
  · replace hres := (if_neg (bI_f c2)).symm.trans hres
    refine lv_iconst (v := (-1)) hx hb dX8_gaieties_8 (by decide) ?_
    obtain ⟨rfl, rfl, rfl⟩ := pr3 hres
    exact W.iret hx hb hr (fun t ht hW => ⟨rfl, ⟨by rw [ht]; exact hI.1, va_K.moved hW.alike hK, hI.2.1, NW.warm hW hN⟩, hI.2.2.F ht⟩) hI.2.2.2.2 dX8_gaieties_9
abbrev rm_X8_kinds : Room := { frames := 4, cells := 0, slots := 0, locals := 88 }
def f_X8_kinds_22 (a1 : Int32) : Nat → Int32 → Int32 → Int32 → (Nat → Int32) → (Nat → Nat → Int32) → Option (Int32 × ST)
  | 0, _, _, _, _, _ => none
  | n22 + 1, x2, x3, x4, v, r => (if 3 ≤ x4 then if inR a1 6 = true then some (x3, (v, (va_up r 4 (upd (r 4) a1.toNatClampNeg x2)))) else none else if inR a1 6 = true then (f_X8_areSo v (va_up r 4 (upd (r 4) a1.toNatClampNeg x4))).bind (fun y7 => (if y7 = true then f_X8_kinds_22 a1 n22 x2 (x3 ||| ((1 : Int32) <<< (x4 &&& 31))) (x4 + 1) v (va_up r 4 (upd (r 4) a1.toNatClampNeg x4)) else f_X8_kinds_22 a1 n22 x2 (x3 ||| 0) (x4 + 1) v (va_up r 4 (upd (r 4) a1.toNatClampNeg x4)))) else none)
theorem f_X8_kinds_22_s (a1 : Int32) (n22 : Nat) (x2 : Int32) (x3 : Int32) (x4 : Int32) (v : (Nat → Int32)) (r : (Nat → Nat → Int32)) : f_X8_kinds_22 a1 (n22 + 1) x2 x3 x4 v r = (if 3 ≤ x4 then if inR a1 6 = true then some (x3, (v, (va_up r 4 (upd (r 4) a1.toNatClampNeg x2)))) else none else if inR a1 6 = true then (f_X8_areSo v (va_up r 4 (upd (r 4) a1.toNatClampNeg x4))).bind (fun y7 => (if y7 = true then f_X8_kinds_22 a1 n22 x2 (x3 ||| ((1 : Int32) <<< (x4 &&& 31))) (x4 + 1) v (va_up r 4 (upd (r 4) a1.toNatClampNeg x4)) else f_X8_kinds_22 a1 n22 x2 (x3 ||| 0) (x4 + 1) v (va_up r 4 (upd (r 4) a1.toNatClampNeg x4)))) else none) := rfl
def f_X8_kinds (v : Nat → Int32) (r : Nat → Nat → Int32) (a1 : Int32) : Option (Int32 × ST) := (if (f_X8_isArticle v r a1) = true then if inR a1 6 = true then f_X8_kinds_22 a1 80 (r 4 a1.toNatClampNeg) (0 : Int32) (0 : Int32) v r else none else some ((-1), (v, r)))
set_option maxHeartbeats 4000000 in
set_option maxRecDepth 100000 in
theorem c_X8_kinds (l : Launch) (D : va_G) (cy : Nat → ClassId) (A : Nat → Nat) (X : va_W) (A0 : Nat → Prop) (v : Nat → Int32) (r : Nat → Nat → Int32) (a1 : Int32) (res : Int32) (v2 : Nat → Int32) (r2 : Nat → Nat → Int32) (hres : f_X8_kinds v r a1 = some (res, (v2, r2))) : Met l yX8_kinds wsX8_kinds rm_X8_kinds (va_Pc [.ref (A 0), .int a1] (GW D (tyM cy) (pcM cy A v r ++ X) A0)) (QW (some (.int res)) (GW D (tyM cy) (pcM cy A v2 r2 ++ X) A0) A0) 0 0 A0 := by
  refine Met.ofW (cc := cX8_kinds) (maxL := 5) (ret := (some .int)) (by decide) rfl ?_
  intro p e s m args below meth c s₁ B hml hv
  obtain ⟨hargs, hP, hK, hD0, hN⟩ := hv
  have hx := B.exec
  have hb := B.bytes
  have hr := B.returns
  have hts := atoms_spec (ws := wsX8_kinds) B.pre
  have hown : s.vm.findClass RX8 = some m.cls := findClass_of_methodNamed B.named
  have hlocks := B.notSynchronized
  have hI : IW D (pcM cy A v r ++ X) A0 s.heap s.heap [] := ⟨hP, hD0, va_S.rf⟩
  have S : CallFix p m c cX8_kinds 5 s args wsX8_kinds RX8 := ⟨hx, hb, hml, hown, hts⟩
  have in8 : ∀ w ∈ wsX80, w ∈ wsX8_kinds := fun _ h => List.mem_cons_of_mem _ (List.mem_append_right _ h)
  have hl := lv_entry ([.ref (A 0), .int a1]) (n := 5) (Nat.le_of_ble_eq_true rfl)
  have hE : entryFrame m args 5 = F0 m 0 ((lg_sl ([.ref (A 0), .int a1]) ++ List.replicate (5 - (lg_sl ([.ref (A 0), .int a1])).length) Slot.unset).toArray) [] := by rw [hargs]; exact lg_entry_eq m [.ref (A 0), .int a1] 5
  rw [hE]
  generalize (lg_sl ([.ref (A 0), .int a1]) ++ List.replicate (5 - (lg_sl ([.ref (A 0), .int a1])).length) Slot.unset).toArray = ls at hl ⊢
  have hl : lv_has ls 5 [(0, .ref (A 0)), (1, .int a1)] := hl
  unfold f_X8_kinds at hres
  refine lv_aload_n hx hb dX8_kinds_0 rfl (lv_at hl 0 rfl) ?_
  refine lv_iload_n hx hb dX8_kinds_1 rfl (lv_at hl 1 rfl) ?_
  refine ro_v S (c_X8_isArticle l D cy A X A0 v r a1 _ rfl) (cwV 1 hts gX8_kinds_X8_isArticle rfl rfl rfl (by decide +kernel) ⟨Nat.le_of_ble_eq_true rfl, Nat.le_of_ble_eq_true rfl⟩) hI hK hN (ci := 7) rfl (atM_0) rfl rfl hl.1 rfl (Nat.le_of_ble_eq_true rfl) dX8_kinds_2 ⟨Nat.zero_le _, Nat.zero_le _⟩ ?_
  refine lv_if_ne (tgt := 10) hx hb dX8_kinds_5 (by decide) (fun c2 => ?_) (fun c2 => ?_)
  · replace hres := (if_pos (bI_t c2)).symm.trans hres
    refine lv_aload_n hx hb dX8_kinds_10 rfl (lv_at hl 0 rfl) ?_
    refine gM_kind hx hb hts in8 hown hK hI (hts (.fieldLink RX8 22 "TrickHouseModel" "kind" "[I") (by decide +kernel)) dX8_kinds_11 ?_
    refine lv_iload_n hx hb dX8_kinds_14 rfl (lv_at hl 1 rfl) ?_
    obtain ⟨g3, hres⟩ := gd hres
    refine th_ild hx hb hK hI 5 0 rfl rfl g3 dX8_kinds_15 ?_
    refine lv_istore_n (lv' := [(2, .int (r 4 a1.toNatClampNeg)), (0, .ref (A 0)), (1, .int a1)]) hx hb dX8_kinds_16 rfl hl (by decide) rfl (fun ls hl => ?_)
    refine lv_iconst (v := 0) hx hb dX8_kinds_17 (by decide) ?_
    refine lv_istore_n (lv' := [(3, .int 0), (2, .int (r 4 a1.toNatClampNeg)), (0, .ref (A 0)), (1, .int a1)]) hx hb dX8_kinds_18 rfl hl (by decide) rfl (fun ls hl => ?_)
    refine lv_iconst (v := 0) hx hb dX8_kinds_19 (by decide) ?_
    refine lv_istore (lv' := [(4, .int 0), (3, .int 0), (2, .int (r 4 a1.toNatClampNeg)), (0, .ref (A 0)), (1, .int a1)]) hx hb dX8_kinds_20 hl (by decide) rfl (fun ls hl => ?_)
    have w22 : ∀ (n22 : Nat) (x2 : Int32) (x3 : Int32) (x4 : Int32) (v : (Nat → Int32)) (r : (Nat → Nat → Int32)), ∀ (H : Heap) (locs : List Loc), IW D (pcM cy A v r ++ X) A0 s.heap H locs → f_X8_kinds_22 a1 n22 x2 x3 x4 v r = some (res, (v2, r2)) → ∀ ls : Array Slot, lv_has ls 5 [(2, .int x2), (3, .int x3), (4, .int x4), (0, .ref (A 0)), (1, .int a1)] → W p l e (headSpec wsX8_kinds rm_X8_kinds).room s m args below meth c H locs 0 0 (MQ below (QW (some (.int res)) (GW D (tyM cy) (pcM cy A v2 r2 ++ X) A0) A0) args s 0 0 A0) (F0 m 22 ls []) := by
      intro n22
      induction n22 with
      | zero =>
        intro x2 x3 x4 v r H locs hI hres
        have hres : (none : Option (Int32 × ST)) = some (res, (v2, r2)) := hres
        cases hres
      | succ n22 ih22 =>
        intro x2 x3 x4 v r H locs hI hres ls hl
        replace hres := (f_X8_kinds_22_s a1 n22 x2 x3 x4 v r).symm.trans hres
        refine lv_iload hx hb dX8_kinds_22 (lv_at hl 2 rfl) ?_
        refine lv_iconst (v := 3) hx hb dX8_kinds_24 (by decide) ?_
        refine lv_icmp_ge (tgt := 60) hx hb dX8_kinds_25 (by decide) (fun c4 => ?_) (fun c4 => ?_)
        · replace hres := (if_pos c4).symm.trans hres
          refine lv_aload_n hx hb dX8_kinds_60 rfl (lv_at hl 3 rfl) ?_
          refine gM_kind hx hb hts in8 hown hK hI (hts (.fieldLink RX8 22 "TrickHouseModel" "kind" "[I") (by decide +kernel)) dX8_kinds_61 ?_
          refine lv_iload_n hx hb dX8_kinds_64 rfl (lv_at hl 4 rfl) ?_
          refine lv_iload_n hx hb dX8_kinds_65 rfl (lv_at hl 0 rfl) ?_
          obtain ⟨g5, hres⟩ := gd hres
          refine th_ist hx hb hK hI 5 0 rfl rfl g5 stM_r5 dX8_kinds_66 (fun H locs hI => ?_)
          refine lv_iload_n hx hb dX8_kinds_67 rfl (lv_at hl 1 rfl) ?_
          obtain ⟨rfl, rfl, rfl⟩ := pr3 hres
          exact W.iret hx hb hr (fun t ht hW => ⟨rfl, ⟨by rw [ht]; exact hI.1, va_K.moved hW.alike hK, hI.2.1, NW.warm hW hN⟩, hI.2.2.F ht⟩) hI.2.2.2.2 dX8_kinds_68
        · replace hres := (if_neg c4).symm.trans hres
          refine lv_aload_n hx hb dX8_kinds_28 rfl (lv_at hl 3 rfl) ?_
          refine gM_kind hx hb hts in8 hown hK hI (hts (.fieldLink RX8 22 "TrickHouseModel" "kind" "[I") (by decide +kernel)) dX8_kinds_29 ?_
          refine lv_iload_n hx hb dX8_kinds_32 rfl (lv_at hl 4 rfl) ?_
          refine lv_iload hx hb dX8_kinds_33 (lv_at hl 2 rfl) ?_
          obtain ⟨g6, hres⟩ := gd hres
          refine th_ist hx hb hK hI 5 0 rfl rfl g6 stM_r5 dX8_kinds_35 (fun H locs hI => ?_)
          refine lv_iload_n hx hb dX8_kinds_36 rfl (lv_at hl 1 rfl) ?_
          refine lv_aload_n hx hb dX8_kinds_37 rfl (lv_at hl 3 rfl) ?_
          obtain ⟨y7, e7, hres⟩ := bd hres
          refine ro_v S (c_X8_areSo l D cy A X A0 v (va_up r 4 (upd (r 4) a1.toNatClampNeg x4)) y7 e7) (cwV 0 hts gX8_kinds_X8_areSo rfl rfl rfl (by decide +kernel) ⟨Nat.le_of_ble_eq_true rfl, Nat.le_of_ble_eq_true rfl⟩) hI hK hN (ci := 7) rfl (atM_0) rfl rfl hl.1 rfl (Nat.le_of_ble_eq_true rfl) dX8_kinds_38 ⟨Nat.zero_le _, Nat.zero_le _⟩ ?_
          refine lv_if_eq (tgt := 51) hx hb dX8_kinds_41 (by decide) (fun c8 => ?_) (fun c8 => ?_)
          · replace hres := (if_neg (bI_f c8)).symm.trans hres
            refine lv_iconst (v := 0) hx hb dX8_kinds_51 (by decide) ?_
            refine lv_ior hx hb dX8_kinds_52 ?_
            refine lv_istore_n (lv' := [(3, .int (x3 ||| 0)), (2, .int x2), (4, .int x4), (0, .ref (A 0)), (1, .int a1)]) hx hb dX8_kinds_53 rfl hl (by decide) rfl (fun ls hl => ?_)
            refine lv_iinc (v := (x4 + 1)) (lv' := [(4, .int (x4 + 1)), (3, .int (x3 ||| 0)), (2, .int x2), (0, .ref (A 0)), (1, .int a1)]) hx hb dX8_kinds_54 hl (k := 2) rfl rfl (by decide) rfl (fun ls hl => ?_)
            refine lv_goto (tgt := 22) hx hb dX8_kinds_57 (by decide) ?_
            exact ih22 x2 (x3 ||| 0) (x4 + 1) v (va_up r 4 (upd (r 4) a1.toNatClampNeg x4)) _ _ hI hres ls (lv_sub hl [2, 1, 0, 3, 4] rfl)
          · replace hres := (if_pos (bI_t c8)).symm.trans hres
            refine lv_iconst (v := 1) hx hb dX8_kinds_44 (by decide) ?_
            refine lv_iload hx hb dX8_kinds_45 (lv_at hl 2 rfl) ?_
            refine lv_ishl hx hb dX8_kinds_47 ?_
            refine lv_goto (tgt := 52) hx hb dX8_kinds_48 (by decide) ?_
            refine lv_ior hx hb dX8_kinds_52 ?_
            refine lv_istore_n (lv' := [(3, .int (x3 ||| ((1 : Int32) <<< (x4 &&& 31)))), (2, .int x2), (4, .int x4), (0, .ref (A 0)), (1, .int a1)]) hx hb dX8_kinds_53 rfl hl (by decide) rfl (fun ls hl => ?_)
            refine lv_iinc (v := (x4 + 1)) (lv' := [(4, .int (x4 + 1)), (3, .int (x3 ||| ((1 : Int32) <<< (x4 &&& 31)))), (2, .int x2), (0, .ref (A 0)), (1, .int a1)]) hx hb dX8_kinds_54 hl (k := 2) rfl rfl (by decide) rfl (fun ls hl => ?_)
            refine lv_goto (tgt := 22) hx hb dX8_kinds_57 (by decide) ?_
            exact ih22 x2 (x3 ||| ((1 : Int32) <<< (x4 &&& 31))) (x4 + 1) v (va_up r 4 (upd (r 4) a1.toNatClampNeg x4)) _ _ hI hres ls (lv_sub hl [2, 1, 0, 3, 4] rfl)
    exact w22 80 (r 4 a1.toNatClampNeg) (0 : Int32) (0 : Int32) v r _ _ hI hres ls (lv_sub hl [2, 1, 0, 3, 4] rfl)
  · replace hres := (if_neg (bI_f c2)).symm.trans hres
    refine lv_iconst (v := (-1)) hx hb dX8_kinds_8 (by decide) ?_
    obtain ⟨rfl, rfl, rfl⟩ := pr3 hres
    exact W.iret hx hb hr (fun t ht hW => ⟨rfl, ⟨by rw [ht]; exact hI.1, va_K.moved hW.alike hK, hI.2.1, NW.warm hW hN⟩, hI.2.2.F ht⟩) hI.2.2.2.2 dX8_kinds_9
abbrev rm_X8_wheres : Room := { frames := 4, cells := 0, slots := 0, locals := 88 }
def f_X8_wheres_30 (a1 : Int32) : Nat → Int32 → Int64 → Int32 → (Nat → Int32) → (Nat → Nat → Int32) → Option (Int64 × ST)
  | 0, _, _, _, _, _ => none
  | n30 + 1, x2, x3, x5, v, r => (if 32 ≤ x5 then some (x3, ((upd v 2 x2), r)) else (f_X8_areSo (upd v 2 ((32 * a1) + x5)) r).bind (fun y5 => (if y5 = true then f_X8_wheres_30 a1 n30 x2 (x3 ||| ((1 : Int64) <<< (x5.toInt64 &&& 63))) (x5 + 1) (upd v 2 ((32 * a1) + x5)) r else f_X8_wheres_30 a1 n30 x2 (x3 ||| (0 : Int64)) (x5 + 1) (upd v 2 ((32 * a1) + x5)) r)))
theorem f_X8_wheres_30_s (a1 : Int32) (n30 : Nat) (x2 : Int32) (x3 : Int64) (x5 : Int32) (v : (Nat → Int32)) (r : (Nat → Nat → Int32)) : f_X8_wheres_30 a1 (n30 + 1) x2 x3 x5 v r = (if 32 ≤ x5 then some (x3, ((upd v 2 x2), r)) else (f_X8_areSo (upd v 2 ((32 * a1) + x5)) r).bind (fun y5 => (if y5 = true then f_X8_wheres_30 a1 n30 x2 (x3 ||| ((1 : Int64) <<< (x5.toInt64 &&& 63))) (x5 + 1) (upd v 2 ((32 * a1) + x5)) r else f_X8_wheres_30 a1 n30 x2 (x3 ||| (0 : Int64)) (x5 + 1) (upd v 2 ((32 * a1) + x5)) r))) := rfl
def f_X8_wheres (v : Nat → Int32) (r : Nat → Nat → Int32) (a1 : Int32) : Option (Int64 × ST) := (if (f_X8_within a1 (0 : Int32) (1 : Int32)) = true then (if (v 4) = 0 then some (((-9223372036854775808) : Int64), (v, r)) else f_X8_wheres_30 a1 80 (v 2) (0 : Int64) (0 : Int32) v r) else some (((-9223372036854775808) : Int64), (v, r)))
set_option maxHeartbeats 4000000 in
set_option maxRecDepth 100000 in
theorem c_X8_wheres (l : Launch) (D : va_G) (cy : Nat → ClassId) (A : Nat → Nat) (X : va_W) (A0 : Nat → Prop) (v : Nat → Int32) (r : Nat → Nat → Int32) (a1 : Int32) (res : Int64) (v2 : Nat → Int32) (r2 : Nat → Nat → Int32) (hres : f_X8_wheres v r a1 = some (res, (v2, r2))) : Met l yX8_wheres wsX8_wheres rm_X8_wheres (va_Pc [.ref (A 0), .int a1] (GW D (tyM cy) (pcM cy A v r ++ X) A0)) (QW (some (.long res)) (GW D (tyM cy) (pcM cy A v2 r2 ++ X) A0) A0) 0 0 A0 := by
  refine Met.ofW (cc := cX8_wheres) (maxL := 6) (ret := (some .long)) (by decide) rfl ?_
  intro p e s m args below meth c s₁ B hml hv
  obtain ⟨hargs, hP, hK, hD0, hN⟩ := hv
  have hx := B.exec
  have hb := B.bytes
  have hr := B.returns
  have hts := atoms_spec (ws := wsX8_wheres) B.pre
  have hown : s.vm.findClass RX8 = some m.cls := findClass_of_methodNamed B.named
  have hlocks := B.notSynchronized
  have hI : IW D (pcM cy A v r ++ X) A0 s.heap s.heap [] := ⟨hP, hD0, va_S.rf⟩
  have S : CallFix p m c cX8_wheres 6 s args wsX8_wheres RX8 := ⟨hx, hb, hml, hown, hts⟩
  have in8 : ∀ w ∈ wsX80, w ∈ wsX8_wheres := fun _ h => List.mem_cons_of_mem _ (List.mem_append_right _ h)
  have hl := lv_entry ([.ref (A 0), .int a1]) (n := 6) (Nat.le_of_ble_eq_true rfl)
  have hE : entryFrame m args 6 = F0 m 0 ((lg_sl ([.ref (A 0), .int a1]) ++ List.replicate (6 - (lg_sl ([.ref (A 0), .int a1])).length) Slot.unset).toArray) [] := by rw [hargs]; exact lg_entry_eq m [.ref (A 0), .int a1] 6
  rw [hE]
  generalize (lg_sl ([.ref (A 0), .int a1]) ++ List.replicate (6 - (lg_sl ([.ref (A 0), .int a1])).length) Slot.unset).toArray = ls at hl ⊢
  have hl : lv_has ls 6 [(0, .ref (A 0)), (1, .int a1)] := hl
  unfold f_X8_wheres at hres
  refine lv_iload_n hx hb dX8_wheres_0 rfl (lv_at hl 1 rfl) ?_
  refine lv_iconst (v := 0) hx hb dX8_wheres_1 (by decide) ?_
  refine lv_iconst (v := 1) hx hb dX8_wheres_2 (by decide) ?_
  refine pu_s S (c_X8_within l a1 (0 : Int32) (1 : Int32) _ rfl) (va_cwS 3 hts gX8_wheres_X8_within rfl rfl rfl (by decide +kernel) ⟨Nat.le_of_ble_eq_true rfl, Nat.le_of_ble_eq_true rfl⟩) hN rfl hl.1 rfl (Nat.le_of_ble_eq_true rfl) dX8_wheres_3 ⟨Nat.zero_le _, Nat.zero_le _⟩ ?_
  refine lv_if_eq (tgt := 16) hx hb dX8_wheres_6 (by decide) (fun c2 => ?_) (fun c2 => ?_)
  · replace hres := (if_neg (bI_f c2)).symm.trans hres
    refine lv_ldc2 hx hb hown (hts (.constantLong RX8 68 (-9223372036854775808)) (by decide +kernel)) dX8_wheres_16 ?_
    obtain ⟨rfl, rfl, rfl⟩ := pr3 hres
    exact W.lret hx hb hr (fun t ht hW => ⟨rfl, ⟨by rw [ht]; exact hI.1, va_K.moved hW.alike hK, hI.2.1, NW.warm hW hN⟩, hI.2.2.F ht⟩) hI.2.2.2.2 dX8_wheres_19
  · replace hres := (if_pos (bI_t c2)).symm.trans hres
    refine lv_aload_n hx hb dX8_wheres_9 rfl (lv_at hl 0 rfl) ?_
    refine gM_articles hx hb hts in8 hown hK hI (hts (.fieldLink RX8 74 "TrickHouseModel" "articles" "I") (by decide +kernel)) dX8_wheres_10 ?_
    refine lv_if_ne (tgt := 20) hx hb dX8_wheres_13 (by decide) (fun c3 => ?_) (fun c3 => ?_)
    · replace hres := (if_neg c3).symm.trans hres
      refine lv_aload_n hx hb dX8_wheres_20 rfl (lv_at hl 0 rfl) ?_
      refine gM_stands hx hb hts in8 hown hK hI (hts (.fieldLink RX8 107 "TrickHouseModel" "stands" "I") (by decide +kernel)) dX8_wheres_21 ?_
      refine lv_istore_n (lv' := [(2, .int (v 2)), (0, .ref (A 0)), (1, .int a1)]) hx hb dX8_wheres_24 rfl hl (by decide) rfl (fun ls hl => ?_)
      refine lv_lconst (v := 0) hx hb dX8_wheres_25 (by decide) ?_
      refine lv_lstore_n (lv' := [(3, .long (0 : Int64)), (2, .int (v 2)), (0, .ref (A 0)), (1, .int a1)]) hx hb dX8_wheres_26 rfl hl (by decide) rfl (fun ls hl => ?_)
      refine lv_iconst (v := 0) hx hb dX8_wheres_27 (by decide) ?_
      refine lv_istore (lv' := [(5, .int 0), (3, .long (0 : Int64)), (2, .int (v 2)), (0, .ref (A 0)), (1, .int a1)]) hx hb dX8_wheres_28 hl (by decide) rfl (fun ls hl => ?_)
      have w30 : ∀ (n30 : Nat) (x2 : Int32) (x3 : Int64) (x5 : Int32) (v : (Nat → Int32)) (r : (Nat → Nat → Int32)), ∀ (H : Heap) (locs : List Loc), IW D (pcM cy A v r ++ X) A0 s.heap H locs → f_X8_wheres_30 a1 n30 x2 x3 x5 v r = some (res, (v2, r2)) → ∀ ls : Array Slot, lv_has ls 6 [(2, .int x2), (3, .long x3), (5, .int x5), (0, .ref (A 0)), (1, .int a1)] → W p l e (headSpec wsX8_wheres rm_X8_wheres).room s m args below meth c H locs 0 0 (MQ below (QW (some (.long res)) (GW D (tyM cy) (pcM cy A v2 r2 ++ X) A0) A0) args s 0 0 A0) (F0 m 30 ls []) := by
        intro n30
        induction n30 with
        | zero =>
          intro x2 x3 x5 v r H locs hI hres
          have hres : (none : Option (Int64 × ST)) = some (res, (v2, r2)) := hres
          cases hres
        | succ n30 ih30 =>
          intro x2 x3 x5 v r H locs hI hres ls hl
          replace hres := (f_X8_wheres_30_s a1 n30 x2 x3 x5 v r).symm.trans hres
          refine lv_iload hx hb dX8_wheres_30 (lv_at hl 2 rfl) ?_
          refine lv_bipush (v := 32) hx hb dX8_wheres_32 (by decide) ?_
          refine lv_icmp_ge (tgt := 72) hx hb dX8_wheres_34 (by decide) (fun c4 => ?_) (fun c4 => ?_)
          · replace hres := (if_pos c4).symm.trans hres
            refine lv_aload_n hx hb dX8_wheres_72 rfl (lv_at hl 3 rfl) ?_
            refine lv_iload_n hx hb dX8_wheres_73 rfl (lv_at hl 0 rfl) ?_
            refine pM_stands hx hb hts in8 hown hK hI (hts (.fieldLink RX8 107 "TrickHouseModel" "stands" "I") (by decide +kernel)) dX8_wheres_74 (fun H locs hI => ?_)
            refine lv_lload_n hx hb dX8_wheres_77 rfl (lv_at hl 1 rfl) ?_
            obtain ⟨rfl, rfl, rfl⟩ := pr3 hres
            exact W.lret hx hb hr (fun t ht hW => ⟨rfl, ⟨by rw [ht]; exact hI.1, va_K.moved hW.alike hK, hI.2.1, NW.warm hW hN⟩, hI.2.2.F ht⟩) hI.2.2.2.2 dX8_wheres_78
          · replace hres := (if_neg c4).symm.trans hres
            refine lv_aload_n hx hb dX8_wheres_37 rfl (lv_at hl 3 rfl) ?_
            refine lv_bipush (v := 32) hx hb dX8_wheres_38 (by decide) ?_
            refine lv_iload_n hx hb dX8_wheres_40 rfl (lv_at hl 4 rfl) ?_
            refine lv_imul hx hb dX8_wheres_41 ?_
            refine lv_iload hx hb dX8_wheres_42 (lv_at hl 2 rfl) ?_
            refine lv_iadd hx hb dX8_wheres_44 ?_
            refine pM_stands hx hb hts in8 hown hK hI (hts (.fieldLink RX8 107 "TrickHouseModel" "stands" "I") (by decide +kernel)) dX8_wheres_45 (fun H locs hI => ?_)
            refine lv_lload_n hx hb dX8_wheres_48 rfl (lv_at hl 1 rfl) ?_
            refine lv_aload_n hx hb dX8_wheres_49 rfl (lv_at hl 3 rfl) ?_
            obtain ⟨y5, e5, hres⟩ := bd hres
            refine ro_v S (c_X8_areSo l D cy A X A0 (upd v 2 ((32 * a1) + x5)) r y5 e5) (cwV 0 hts gX8_wheres_X8_areSo rfl rfl rfl (by decide +kernel) ⟨Nat.le_of_ble_eq_true rfl, Nat.le_of_ble_eq_true rfl⟩) hI hK hN (ci := 7) rfl (atM_0) rfl rfl hl.1 rfl (Nat.le_of_ble_eq_true rfl) dX8_wheres_50 ⟨Nat.zero_le _, Nat.zero_le _⟩ ?_
            refine lv_if_eq (tgt := 63) hx hb dX8_wheres_53 (by decide) (fun c6 => ?_) (fun c6 => ?_)
            · replace hres := (if_neg (bI_f c6)).symm.trans hres
              refine lv_lconst (v := 0) hx hb dX8_wheres_63 (by decide) ?_
              refine lv_lor hx hb dX8_wheres_64 ?_
              refine lv_lstore_n (lv' := [(3, .long (x3 ||| (0 : Int64))), (2, .int x2), (5, .int x5), (0, .ref (A 0)), (1, .int a1)]) hx hb dX8_wheres_65 rfl hl (by decide) rfl (fun ls hl => ?_)
              refine lv_iinc (v := (x5 + 1)) (lv' := [(5, .int (x5 + 1)), (3, .long (x3 ||| (0 : Int64))), (2, .int x2), (0, .ref (A 0)), (1, .int a1)]) hx hb dX8_wheres_66 hl (k := 2) rfl rfl (by decide) rfl (fun ls hl => ?_)
              refine lv_goto (tgt := 30) hx hb dX8_wheres_69 (by decide) ?_
              exact ih30 x2 (x3 ||| (0 : Int64)) (x5 + 1) (upd v 2 ((32 * a1) + x5)) r _ _ hI hres ls (lv_sub hl [2, 1, 0, 3, 4] rfl)
            · replace hres := (if_pos (bI_t c6)).symm.trans hres
              refine lv_lconst (v := 1) hx hb dX8_wheres_56 (by decide) ?_
              refine lv_iload hx hb dX8_wheres_57 (lv_at hl 2 rfl) ?_
              refine lv_lshl hx hb dX8_wheres_59 rfl ?_
              refine lv_goto (tgt := 64) hx hb dX8_wheres_60 (by decide) ?_
              refine lv_lor hx hb dX8_wheres_64 ?_
              refine lv_lstore_n (lv' := [(3, .long (x3 ||| ((1 : Int64) <<< (x5.toInt64 &&& 63)))), (2, .int x2), (5, .int x5), (0, .ref (A 0)), (1, .int a1)]) hx hb dX8_wheres_65 rfl hl (by decide) rfl (fun ls hl => ?_)
              refine lv_iinc (v := (x5 + 1)) (lv' := [(5, .int (x5 + 1)), (3, .long (x3 ||| ((1 : Int64) <<< (x5.toInt64 &&& 63)))), (2, .int x2), (0, .ref (A 0)), (1, .int a1)]) hx hb dX8_wheres_66 hl (k := 2) rfl rfl (by decide) rfl (fun ls hl => ?_)
              refine lv_goto (tgt := 30) hx hb dX8_wheres_69 (by decide) ?_
              exact ih30 x2 (x3 ||| ((1 : Int64) <<< (x5.toInt64 &&& 63))) (x5 + 1) (upd v 2 ((32 * a1) + x5)) r _ _ hI hres ls (lv_sub hl [2, 1, 0, 3, 4] rfl)
      exact w30 80 (v 2) (0 : Int64) (0 : Int32) v r _ _ hI hres ls (lv_sub hl [2, 1, 0, 3, 4] rfl)
    · replace hres := (if_pos c3).symm.trans hres
      refine lv_ldc2 hx hb hown (hts (.constantLong RX8 68 (-9223372036854775808)) (by decide +kernel)) dX8_wheres_16 ?_
      obtain ⟨rfl, rfl, rfl⟩ := pr3 hres
      exact W.lret hx hb hr (fun t ht hW => ⟨rfl, ⟨by rw [ht]; exact hI.1, va_K.moved hW.alike hK, hI.2.1, NW.warm hW hN⟩, hI.2.2.F ht⟩) hI.2.2.2.2 dX8_wheres_19
abbrev rm_X8_inLeastTerms : Room := { frames := 0, cells := 0, slots := 0, locals := 0 }
def f_X8_inLeastTerms_6 (a0 : Int64) (a2 : Int64) (a4 : Int32) : Nat → Int64 → Int64 → Option Int64
  | 0, _, _ => none
  | n6 + 1, x5, x7 => (if (lg_cmp x7 (0 : Int64)) = 0 then (if a4 = 0 then if x5 = 0 then none else some ((a0 / x5)) else if x5 = 0 then none else some ((a2 / x5))) else if x7 = 0 then none else f_X8_inLeastTerms_6 a0 a2 a4 n6 x7 (x5 - x5 / x7 * x7))
theorem f_X8_inLeastTerms_6_s (a0 : Int64) (a2 : Int64) (a4 : Int32) (n6 : Nat) (x5 : Int64) (x7 : Int64) : f_X8_inLeastTerms_6 a0 a2 a4 (n6 + 1) x5 x7 = (if (lg_cmp x7 (0 : Int64)) = 0 then (if a4 = 0 then if x5 = 0 then none else some ((a0 / x5)) else if x5 = 0 then none else some ((a2 / x5))) else if x7 = 0 then none else f_X8_inLeastTerms_6 a0 a2 a4 n6 x7 (x5 - x5 / x7 * x7)) := rfl
def f_X8_inLeastTerms (a0 : Int64) (a2 : Int64) (a4 : Int32) : Option Int64 := f_X8_inLeastTerms_6 a0 a2 a4 80 a0 a2
set_option maxHeartbeats 4000000 in
set_option maxRecDepth 100000 in
theorem c_X8_inLeastTerms (l : Launch) (a0 : Int64) (a2 : Int64) (a4 : Int32) (res : Int64) (hres : f_X8_inLeastTerms a0 a2 a4 = some res) : Met l yX8_inLeastTerms wsX8_inLeastTerms rm_X8_inLeastTerms (va_Pc [.long a0, .long a2, .int a4] NW) (QR (.long res)) 0 0 (fun _ => False) := by
  refine Met.ofW (cc := cX8_inLeastTerms) (maxL := 11) (ret := (some .long)) (by decide) rfl ?_
  intro p e s m args below meth c s₁ B hml hv
  obtain ⟨hargs, hN⟩ := hv
  have hx := B.exec
  have hb := B.bytes
  have hr := B.returns
  have hts := atoms_spec (ws := wsX8_inLeastTerms) B.pre
  have hown : s.vm.findClass RX8 = some m.cls := findClass_of_methodNamed B.named
  have hlocks := B.notSynchronized
  have hl := lv_entry ([.long a0, .long a2, .int a4]) (n := 11) (Nat.le_of_ble_eq_true rfl)
  have hE : entryFrame m args 11 = F0 m 0 ((lg_sl ([.long a0, .long a2, .int a4]) ++ List.replicate (11 - (lg_sl ([.long a0, .long a2, .int a4])).length) Slot.unset).toArray) [] := by rw [hargs]; exact lg_entry_eq m [.long a0, .long a2, .int a4] 11
  rw [hE]
  generalize (lg_sl ([.long a0, .long a2, .int a4]) ++ List.replicate (11 - (lg_sl ([.long a0, .long a2, .int a4])).length) Slot.unset).toArray = ls at hl ⊢
  have hl : lv_has ls 11 [(0, .long a0), (2, .long a2), (4, .int a4)] := hl
  unfold f_X8_inLeastTerms at hres
  refine lv_lload_n hx hb dX8_inLeastTerms_0 rfl (lv_at hl 0 rfl) ?_
  refine lv_lstore (lv' := [(5, .long a0), (0, .long a0), (2, .long a2), (4, .int a4)]) hx hb dX8_inLeastTerms_1 hl (by decide) rfl (fun ls hl => ?_)
  refine lv_lload_n hx hb dX8_inLeastTerms_3 rfl (lv_at hl 2 rfl) ?_
  refine lv_lstore (lv' := [(7, .long a2), (5, .long a0), (0, .long a0), (2, .long a2), (4, .int a4)]) hx hb dX8_inLeastTerms_4 hl (by decide) rfl (fun ls hl => ?_)
  have w6 : ∀ (n6 : Nat) (x5 : Int64) (x7 : Int64), f_X8_inLeastTerms_6 a0 a2 a4 n6 x5 x7 = some res → ∀ ls : Array Slot, lv_has ls 11 [(5, .long x5), (7, .long x7), (0, .long a0), (2, .long a2), (4, .int a4)] → W p l e (headSpec wsX8_inLeastTerms rm_X8_inLeastTerms).room s m args below meth c s.heap [] 0 0 (MQ below (QR (.long res)) args s 0 0 (fun _ => False)) (F0 m 6 ls []) := by
    intro n6
    induction n6 with
    | zero =>
      intro x5 x7  hres
      have hres : (none : Option Int64) = some res := hres
      cases hres
    | succ n6 ih6 =>
      intro x5 x7  hres ls hl
      replace hres := (f_X8_inLeastTerms_6_s a0 a2 a4 n6 x5 x7).symm.trans hres
      refine lv_lload hx hb dX8_inLeastTerms_6 (lv_at hl 1 rfl) ?_
      refine lv_lconst (v := 0) hx hb dX8_inLeastTerms_8 (by decide) ?_
      refine W.lcmp hx hb dX8_inLeastTerms_9 ?_
      refine lv_if_eq (tgt := 31) hx hb dX8_inLeastTerms_10 (by decide) (fun c1 => ?_) (fun c1 => ?_)
      · replace hres := (if_pos c1).symm.trans hres
        refine lv_iload hx hb dX8_inLeastTerms_31 (lv_at hl 4 rfl) ?_
        refine lv_if_ne (tgt := 43) hx hb dX8_inLeastTerms_33 (by decide) (fun c2 => ?_) (fun c2 => ?_)
        · replace hres := (if_neg c2).symm.trans hres
          refine lv_lload_n hx hb dX8_inLeastTerms_43 rfl (lv_at hl 3 rfl) ?_
          refine lv_lload hx hb dX8_inLeastTerms_44 (lv_at hl 0 rfl) ?_
          obtain ⟨g3, hres⟩ := gn hres
          refine lv_ldiv hx hb dX8_inLeastTerms_46 g3 ?_
          obtain rfl := Option.some.inj hres
          exact W.lret hx hb hr (fun t ht hW => ⟨rfl, ht⟩) (fun _ h => absurd h List.not_mem_nil) dX8_inLeastTerms_47
        · replace hres := (if_pos c2).symm.trans hres
          refine lv_lload_n hx hb dX8_inLeastTerms_36 rfl (lv_at hl 2 rfl) ?_
          refine lv_lload hx hb dX8_inLeastTerms_37 (lv_at hl 0 rfl) ?_
          obtain ⟨g4, hres⟩ := gn hres
          refine lv_ldiv hx hb dX8_inLeastTerms_39 g4 ?_
          refine lv_goto (tgt := 47) hx hb dX8_inLeastTerms_40 (by decide) ?_
          obtain rfl := Option.some.inj hres
          exact W.lret hx hb hr (fun t ht hW => ⟨rfl, ht⟩) (fun _ h => absurd h List.not_mem_nil) dX8_inLeastTerms_47
      · replace hres := (if_neg c1).symm.trans hres
        refine lv_lload hx hb dX8_inLeastTerms_13 (lv_at hl 0 rfl) ?_
        refine lv_lload hx hb dX8_inLeastTerms_15 (lv_at hl 1 rfl) ?_
        obtain ⟨g5, hres⟩ := gn hres
        refine lv_lrem hx hb dX8_inLeastTerms_17 g5 ?_
        refine lv_lstore (lv' := [(9, .long (x5 - x5 / x7 * x7)), (5, .long x5), (7, .long x7), (0, .long a0), (2, .long a2), (4, .int a4)]) hx hb dX8_inLeastTerms_18 hl (by decide) rfl (fun ls hl => ?_)
        refine lv_lload hx hb dX8_inLeastTerms_20 (lv_at hl 2 rfl) ?_
        refine lv_lstore (lv' := [(5, .long x7), (9, .long (x5 - x5 / x7 * x7)), (7, .long x7), (0, .long a0), (2, .long a2), (4, .int a4)]) hx hb dX8_inLeastTerms_22 hl (by decide) rfl (fun ls hl => ?_)
        refine lv_lload hx hb dX8_inLeastTerms_24 (lv_at hl 1 rfl) ?_
        refine lv_lstore (lv' := [(7, .long (x5 - x5 / x7 * x7)), (5, .long x7), (9, .long (x5 - x5 / x7 * x7)), (0, .long a0), (2, .long a2), (4, .int a4)]) hx hb dX8_inLeastTerms_26 hl (by decide) rfl (fun ls hl => ?_)
        refine lv_goto (tgt := 6) hx hb dX8_inLeastTerms_28 (by decide) ?_
        exact ih6 x7 (x5 - x5 / x7 * x7) hres ls (lv_sub hl [1, 0, 3, 4, 5] rfl)
  exact w6 80 a0 a2 hres ls (lv_sub hl [1, 0, 2, 3, 4] rfl)
abbrev rm_X8_odds : Room := { frames := 3, cells := 0, slots := 0, locals := 70 }
def f_X8_odds_40 (v : Nat → Int32) (r : Nat → Nat → Int32) (a1 : Int32) (a2 : Int32) : Nat → Int32 → Int32 → Int32 → Option Int64
  | 0, _, _, _ => none
  | n40 + 1, x3, x4, x5 => (if ((1 : Int32) <<< ((v 4) &&& 31)) ≤ x5 then (f_X8_inLeastTerms x3.toInt64 x4.toInt64 a2).bind (fun y8 => some (y8)) else (if (x5 &&& ((v 5) ^^^ (-1))) = 0 then (f_X8_companyOf v r ((v 5) &&& (x5 ^^^ (-1)))).bind (fun y10 => (if (f_X8_isOf y10 a1) = true then f_X8_odds_40 v r a1 a2 n40 (x3 + 1) (x4 + 1) (x5 + 1) else f_X8_odds_40 v r a1 a2 n40 (x3 + 0) (x4 + 1) (x5 + 1))) else f_X8_odds_40 v r a1 a2 n40 x3 x4 (x5 + 1)))
theorem f_X8_odds_40_s (v : Nat → Int32) (r : Nat → Nat → Int32) (a1 : Int32) (a2 : Int32) (n40 : Nat) (x3 : Int32) (x4 : Int32) (x5 : Int32) : f_X8_odds_40 v r a1 a2 (n40 + 1) x3 x4 x5 = (if ((1 : Int32) <<< ((v 4) &&& 31)) ≤ x5 then (f_X8_inLeastTerms x3.toInt64 x4.toInt64 a2).bind (fun y8 => some (y8)) else (if (x5 &&& ((v 5) ^^^ (-1))) = 0 then (f_X8_companyOf v r ((v 5) &&& (x5 ^^^ (-1)))).bind (fun y10 => (if (f_X8_isOf y10 a1) = true then f_X8_odds_40 v r a1 a2 n40 (x3 + 1) (x4 + 1) (x5 + 1) else f_X8_odds_40 v r a1 a2 n40 (x3 + 0) (x4 + 1) (x5 + 1))) else f_X8_odds_40 v r a1 a2 n40 x3 x4 (x5 + 1))) := rfl
def f_X8_odds (v : Nat → Int32) (r : Nat → Nat → Int32) (a1 : Int32) (a2 : Int32) : Option Int64 := (if (f_X8_isArticle v r a1) = true then (if (f_X8_within a2 (0 : Int32) (1 : Int32)) = true then (if (f_X8_isOf (v 5) a1) = true then f_X8_odds_40 v r a1 a2 80 (0 : Int32) (0 : Int32) (0 : Int32) else some (((-9223372036854775808) : Int64))) else some (((-9223372036854775808) : Int64))) else some (((-9223372036854775808) : Int64)))
set_option maxHeartbeats 4000000 in
set_option maxRecDepth 100000 in
theorem c_X8_odds (l : Launch) (D : va_G) (cy : Nat → ClassId) (A : Nat → Nat) (X : va_W) (A0 : Nat → Prop) (v : Nat → Int32) (r : Nat → Nat → Int32) (a1 : Int32) (a2 : Int32) (res : Int64) (hres : f_X8_odds v r a1 a2 = some res) : Met l yX8_odds wsX8_odds rm_X8_odds (va_Pc [.ref (A 0), .int a1, .int a2] (GW D (tyM cy) (pcM cy A v r ++ X) A0)) (QR (.long res)) 0 0 (fun _ => False) := by
  refine Met.ofW (cc := cX8_odds) (maxL := 6) (ret := (some .long)) (by decide) rfl ?_
  intro p e s m args below meth c s₁ B hml hv
  obtain ⟨hargs, hP, hK, hD0, hN⟩ := hv
  have hx := B.exec
  have hb := B.bytes
  have hr := B.returns
  have hts := atoms_spec (ws := wsX8_odds) B.pre
  have hown : s.vm.findClass RX8 = some m.cls := findClass_of_methodNamed B.named
  have hlocks := B.notSynchronized
  have hI : IW D (pcM cy A v r ++ X) A0 s.heap s.heap [] := ⟨hP, hD0, va_S.rf⟩
  have S : CallFix p m c cX8_odds 6 s args wsX8_odds RX8 := ⟨hx, hb, hml, hown, hts⟩
  have in8 : ∀ w ∈ wsX80, w ∈ wsX8_odds := fun _ h => List.mem_cons_of_mem _ (List.mem_append_right _ h)
  have hl := lv_entry ([.ref (A 0), .int a1, .int a2]) (n := 6) (Nat.le_of_ble_eq_true rfl)
  have hE : entryFrame m args 6 = F0 m 0 ((lg_sl ([.ref (A 0), .int a1, .int a2]) ++ List.replicate (6 - (lg_sl ([.ref (A 0), .int a1, .int a2])).length) Slot.unset).toArray) [] := by rw [hargs]; exact lg_entry_eq m [.ref (A 0), .int a1, .int a2] 6
  rw [hE]
  generalize (lg_sl ([.ref (A 0), .int a1, .int a2]) ++ List.replicate (6 - (lg_sl ([.ref (A 0), .int a1, .int a2])).length) Slot.unset).toArray = ls at hl ⊢
  have hl : lv_has ls 6 [(0, .ref (A 0)), (1, .int a1), (2, .int a2)] := hl
  unfold f_X8_odds at hres
  refine lv_aload_n hx hb dX8_odds_0 rfl (lv_at hl 0 rfl) ?_
  refine lv_iload_n hx hb dX8_odds_1 rfl (lv_at hl 1 rfl) ?_
  refine ro_v S (c_X8_isArticle l D cy A X A0 v r a1 _ rfl) (cwV 1 hts gX8_odds_X8_isArticle rfl rfl rfl (by decide +kernel) ⟨Nat.le_of_ble_eq_true rfl, Nat.le_of_ble_eq_true rfl⟩) hI hK hN (ci := 7) rfl (atM_0) rfl rfl hl.1 rfl (Nat.le_of_ble_eq_true rfl) dX8_odds_2 ⟨Nat.zero_le _, Nat.zero_le _⟩ ?_
  refine lv_if_eq (tgt := 28) hx hb dX8_odds_5 (by decide) (fun c2 => ?_) (fun c2 => ?_)
  · replace hres := (if_neg (bI_f c2)).symm.trans hres
    refine lv_ldc2 hx hb hown (hts (.constantLong RX8 68 (-9223372036854775808)) (by decide +kernel)) dX8_odds_28 ?_
    obtain rfl := Option.some.inj hres
    exact W.lret hx hb hr (fun t ht hW => ⟨rfl, ht⟩) (fun _ h => absurd h List.not_mem_nil) dX8_odds_31
  · replace hres := (if_pos (bI_t c2)).symm.trans hres
    refine lv_iload_n hx hb dX8_odds_8 rfl (lv_at hl 2 rfl) ?_
    refine lv_iconst (v := 0) hx hb dX8_odds_9 (by decide) ?_
    refine lv_iconst (v := 1) hx hb dX8_odds_10 (by decide) ?_
    refine pu_s S (c_X8_within l a2 (0 : Int32) (1 : Int32) _ rfl) (va_cwS 3 hts gX8_odds_X8_within rfl rfl rfl (by decide +kernel) ⟨Nat.le_of_ble_eq_true rfl, Nat.le_of_ble_eq_true rfl⟩) hN rfl hl.1 rfl (Nat.le_of_ble_eq_true rfl) dX8_odds_11 ⟨Nat.zero_le _, Nat.zero_le _⟩ ?_
    refine lv_if_eq (tgt := 28) hx hb dX8_odds_14 (by decide) (fun c4 => ?_) (fun c4 => ?_)
    · replace hres := (if_neg (bI_f c4)).symm.trans hres
      refine lv_ldc2 hx hb hown (hts (.constantLong RX8 68 (-9223372036854775808)) (by decide +kernel)) dX8_odds_28 ?_
      obtain rfl := Option.some.inj hres
      exact W.lret hx hb hr (fun t ht hW => ⟨rfl, ht⟩) (fun _ h => absurd h List.not_mem_nil) dX8_odds_31
    · replace hres := (if_pos (bI_t c4)).symm.trans hres
      refine lv_aload_n hx hb dX8_odds_17 rfl (lv_at hl 0 rfl) ?_
      refine gM_thereNow hx hb hts in8 hown hK hI (hts (.fieldLink RX8 116 "TrickHouseModel" "thereNow" "I") (by decide +kernel)) dX8_odds_18 ?_
      refine lv_iload_n hx hb dX8_odds_21 rfl (lv_at hl 1 rfl) ?_
      refine pu_s S (c_X8_isOf l (v 5) a1 _ rfl) (va_cwS 2 hts gX8_odds_X8_isOf rfl rfl rfl (by decide +kernel) ⟨Nat.le_of_ble_eq_true rfl, Nat.le_of_ble_eq_true rfl⟩) hN rfl hl.1 rfl (Nat.le_of_ble_eq_true rfl) dX8_odds_22 ⟨Nat.zero_le _, Nat.zero_le _⟩ ?_
      refine lv_if_ne (tgt := 32) hx hb dX8_odds_25 (by decide) (fun c6 => ?_) (fun c6 => ?_)
      · replace hres := (if_pos (bI_t c6)).symm.trans hres
        refine lv_iconst (v := 0) hx hb dX8_odds_32 (by decide) ?_
        refine lv_istore_n (lv' := [(3, .int 0), (0, .ref (A 0)), (1, .int a1), (2, .int a2)]) hx hb dX8_odds_33 rfl hl (by decide) rfl (fun ls hl => ?_)
        refine lv_iconst (v := 0) hx hb dX8_odds_34 (by decide) ?_
        refine lv_istore (lv' := [(4, .int 0), (3, .int 0), (0, .ref (A 0)), (1, .int a1), (2, .int a2)]) hx hb dX8_odds_35 hl (by decide) rfl (fun ls hl => ?_)
        refine lv_iconst (v := 0) hx hb dX8_odds_37 (by decide) ?_
        refine lv_istore (lv' := [(5, .int 0), (4, .int 0), (3, .int 0), (0, .ref (A 0)), (1, .int a1), (2, .int a2)]) hx hb dX8_odds_38 hl (by decide) rfl (fun ls hl => ?_)
        have w40 : ∀ (n40 : Nat) (x3 : Int32) (x4 : Int32) (x5 : Int32), f_X8_odds_40 v r a1 a2 n40 x3 x4 x5 = some res → ∀ ls : Array Slot, lv_has ls 6 [(3, .int x3), (4, .int x4), (5, .int x5), (0, .ref (A 0)), (1, .int a1), (2, .int a2)] → W p l e (headSpec wsX8_odds rm_X8_odds).room s m args below meth c s.heap [] 0 0 (MQ below (QR (.long res)) args s 0 0 (fun _ => False)) (F0 m 40 ls []) := by
          intro n40
          induction n40 with
          | zero =>
            intro x3 x4 x5  hres
            have hres : (none : Option Int64) = some res := hres
            cases hres
          | succ n40 ih40 =>
            intro x3 x4 x5  hres ls hl
            replace hres := (f_X8_odds_40_s v r a1 a2 n40 x3 x4 x5).symm.trans hres
            refine lv_iload hx hb dX8_odds_40 (lv_at hl 2 rfl) ?_
            refine lv_iconst (v := 1) hx hb dX8_odds_42 (by decide) ?_
            refine lv_aload_n hx hb dX8_odds_43 rfl (lv_at hl 3 rfl) ?_
            refine gM_articles hx hb hts in8 hown hK hI (hts (.fieldLink RX8 74 "TrickHouseModel" "articles" "I") (by decide +kernel)) dX8_odds_44 ?_
            refine lv_ishl hx hb dX8_odds_47 ?_
            refine lv_icmp_ge (tgt := 100) hx hb dX8_odds_48 (by decide) (fun c7 => ?_) (fun c7 => ?_)
            · replace hres := (if_pos c7).symm.trans hres
              refine lv_iload_n hx hb dX8_odds_100 rfl (lv_at hl 0 rfl) ?_
              refine lv_i2l hx hb dX8_odds_101 rfl ?_
              refine lv_iload hx hb dX8_odds_102 (lv_at hl 1 rfl) ?_
              refine lv_i2l hx hb dX8_odds_104 rfl ?_
              refine lv_iload_n hx hb dX8_odds_105 rfl (lv_at hl 5 rfl) ?_
              obtain ⟨y8, e8, hres⟩ := bd hres
              refine pu_s S (c_X8_inLeastTerms l x3.toInt64 x4.toInt64 a2 y8 e8) (va_cwS 3 hts gX8_odds_X8_inLeastTerms rfl rfl rfl (by decide +kernel) ⟨Nat.le_of_ble_eq_true rfl, Nat.le_of_ble_eq_true rfl⟩) hN rfl hl.1 rfl (Nat.le_of_ble_eq_true rfl) dX8_odds_106 ⟨Nat.zero_le _, Nat.zero_le _⟩ ?_
              obtain rfl := Option.some.inj hres
              exact W.lret hx hb hr (fun t ht hW => ⟨rfl, ht⟩) (fun _ h => absurd h List.not_mem_nil) dX8_odds_109
            · replace hres := (if_neg c7).symm.trans hres
              refine lv_iload hx hb dX8_odds_51 (lv_at hl 2 rfl) ?_
              refine lv_aload_n hx hb dX8_odds_53 rfl (lv_at hl 3 rfl) ?_
              refine gM_thereNow hx hb hts in8 hown hK hI (hts (.fieldLink RX8 116 "TrickHouseModel" "thereNow" "I") (by decide +kernel)) dX8_odds_54 ?_
              refine lv_iconst (v := (-1)) hx hb dX8_odds_57 (by decide) ?_
              refine lv_ixor hx hb dX8_odds_58 ?_
              refine lv_iand hx hb dX8_odds_59 ?_
              refine lv_if_ne (tgt := 94) hx hb dX8_odds_60 (by decide) (fun c9 => ?_) (fun c9 => ?_)
              · replace hres := (if_neg c9).symm.trans hres
                refine lv_iinc (v := (x5 + 1)) (lv' := [(5, .int (x5 + 1)), (3, .int x3), (4, .int x4), (0, .ref (A 0)), (1, .int a1), (2, .int a2)]) hx hb dX8_odds_94 hl (k := 2) rfl rfl (by decide) rfl (fun ls hl => ?_)
                refine lv_goto (tgt := 40) hx hb dX8_odds_97 (by decide) ?_
                exact ih40 x3 x4 (x5 + 1) hres ls (lv_sub hl [1, 2, 0, 3, 4, 5] rfl)
              · replace hres := (if_pos c9).symm.trans hres
                refine lv_iinc (v := (x4 + 1)) (lv' := [(4, .int (x4 + 1)), (3, .int x3), (5, .int x5), (0, .ref (A 0)), (1, .int a1), (2, .int a2)]) hx hb dX8_odds_63 hl (k := 1) rfl rfl (by decide) rfl (fun ls hl => ?_)
                refine lv_iload_n hx hb dX8_odds_66 rfl (lv_at hl 1 rfl) ?_
                refine lv_aload_n hx hb dX8_odds_67 rfl (lv_at hl 3 rfl) ?_
                refine lv_aload_n hx hb dX8_odds_68 rfl (lv_at hl 3 rfl) ?_
                refine gM_thereNow hx hb hts in8 hown hK hI (hts (.fieldLink RX8 116 "TrickHouseModel" "thereNow" "I") (by decide +kernel)) dX8_odds_69 ?_
                refine lv_iload hx hb dX8_odds_72 (lv_at hl 2 rfl) ?_
                refine lv_iconst (v := (-1)) hx hb dX8_odds_74 (by decide) ?_
                refine lv_ixor hx hb dX8_odds_75 ?_
                refine lv_iand hx hb dX8_odds_76 ?_
                obtain ⟨y10, e10, hres⟩ := bd hres
                refine ro_v S (c_X8_companyOf l D cy A X A0 v r ((v 5) &&& (x5 ^^^ (-1))) y10 e10) (cwV 1 hts gX8_odds_X8_companyOf rfl rfl rfl (by decide +kernel) ⟨Nat.le_of_ble_eq_true rfl, Nat.le_of_ble_eq_true rfl⟩) hI hK hN (ci := 7) rfl (atM_0) rfl rfl hl.1 rfl (Nat.le_of_ble_eq_true rfl) dX8_odds_77 ⟨Nat.zero_le _, Nat.zero_le _⟩ ?_
                refine lv_iload_n hx hb dX8_odds_80 rfl (lv_at hl 4 rfl) ?_
                refine pu_s S (c_X8_isOf l y10 a1 _ rfl) (va_cwS 2 hts gX8_odds_X8_isOf rfl rfl rfl (by decide +kernel) ⟨Nat.le_of_ble_eq_true rfl, Nat.le_of_ble_eq_true rfl⟩) hN rfl hl.1 rfl (Nat.le_of_ble_eq_true rfl) dX8_odds_81 ⟨Nat.zero_le _, Nat.zero_le _⟩ ?_
                refine lv_if_eq (tgt := 91) hx hb dX8_odds_84 (by decide) (fun c12 => ?_) (fun c12 => ?_)
                · replace hres := (if_neg (bI_f c12)).symm.trans hres
                  refine lv_iconst (v := 0) hx hb dX8_odds_91 (by decide) ?_
                  refine lv_iadd hx hb dX8_odds_92 ?_
                  refine lv_istore_n (lv' := [(3, .int (x3 + 0)), (4, .int (x4 + 1)), (5, .int x5), (0, .ref (A 0)), (1, .int a1), (2, .int a2)]) hx hb dX8_odds_93 rfl hl (by decide) rfl (fun ls hl => ?_)
                  refine lv_iinc (v := (x5 + 1)) (lv' := [(5, .int (x5 + 1)), (3, .int (x3 + 0)), (4, .int (x4 + 1)), (0, .ref (A 0)), (1, .int a1), (2, .int a2)]) hx hb dX8_odds_94 hl (k := 2) rfl rfl (by decide) rfl (fun ls hl => ?_)
                  refine lv_goto (tgt := 40) hx hb dX8_odds_97 (by decide) ?_
                  exact ih40 (x3 + 0) (x4 + 1) (x5 + 1) hres ls (lv_sub hl [1, 2, 0, 3, 4, 5] rfl)
                · replace hres := (if_pos (bI_t c12)).symm.trans hres
                  refine lv_iconst (v := 1) hx hb dX8_odds_87 (by decide) ?_
                  refine lv_goto (tgt := 92) hx hb dX8_odds_88 (by decide) ?_
                  refine lv_iadd hx hb dX8_odds_92 ?_
                  refine lv_istore_n (lv' := [(3, .int (x3 + 1)), (4, .int (x4 + 1)), (5, .int x5), (0, .ref (A 0)), (1, .int a1), (2, .int a2)]) hx hb dX8_odds_93 rfl hl (by decide) rfl (fun ls hl => ?_)
                  refine lv_iinc (v := (x5 + 1)) (lv' := [(5, .int (x5 + 1)), (3, .int (x3 + 1)), (4, .int (x4 + 1)), (0, .ref (A 0)), (1, .int a1), (2, .int a2)]) hx hb dX8_odds_94 hl (k := 2) rfl rfl (by decide) rfl (fun ls hl => ?_)
                  refine lv_goto (tgt := 40) hx hb dX8_odds_97 (by decide) ?_
                  exact ih40 (x3 + 1) (x4 + 1) (x5 + 1) hres ls (lv_sub hl [1, 2, 0, 3, 4, 5] rfl)
        exact w40 80 (0 : Int32) (0 : Int32) (0 : Int32) hres ls (lv_sub hl [2, 1, 0, 3, 4, 5] rfl)
      · replace hres := (if_neg (bI_f c6)).symm.trans hres
        refine lv_ldc2 hx hb hown (hts (.constantLong RX8 68 (-9223372036854775808)) (by decide +kernel)) dX8_odds_28 ?_
        obtain rfl := Option.some.inj hres
        exact W.lret hx hb hr (fun t ht hW => ⟨rfl, ht⟩) (fun _ h => absurd h List.not_mem_nil) dX8_odds_31
abbrev rm_X8_sheet : Room := { frames := 2, cells := 0, slots := 0, locals := 42 }
def f_X8_sheet_57 (a1 : Int32) (a2 : Int32) (a3 : Int32) : Nat → Int32 → (Nat → Int32) → (Nat → Nat → Int32) → Option (Int32 × ST)
  | 0, _, _, _ => none
  | n57 + 1, x4, v, r => (if 60 ≤ x4 then some (1, (v, r)) else if inR ((60 * a1) + x4) 240 = true then f_X8_sheet_57 a1 a2 a3 n57 (x4 + 1) v (va_up r 2 (upd (r 2) ((60 * a1) + x4).toNatClampNeg 0)) else none)
theorem f_X8_sheet_57_s (a1 : Int32) (a2 : Int32) (a3 : Int32) (n57 : Nat) (x4 : Int32) (v : (Nat → Int32)) (r : (Nat → Nat → Int32)) : f_X8_sheet_57 a1 a2 a3 (n57 + 1) x4 v r = (if 60 ≤ x4 then some (1, (v, r)) else if inR ((60 * a1) + x4) 240 = true then f_X8_sheet_57 a1 a2 a3 n57 (x4 + 1) v (va_up r 2 (upd (r 2) ((60 * a1) + x4).toNatClampNeg 0)) else none) := rfl
def f_X8_sheet (v : Nat → Int32) (r : Nat → Nat → Int32) (a1 : Int32) (a2 : Int32) (a3 : Int32) : Option (Int32 × ST) := (if (f_X8_isSheet a1) = true then (if (f_X8_isSort a2) = true then (if a3 ≤ 60 then (if 0 ≤ a3 then if inR a1 4 = true then if inR a1 4 = true then f_X8_sheet_57 a1 a2 a3 80 (0 : Int32) (upd v 0 0) (va_up (va_up r 0 (upd (r 0) a1.toNatClampNeg a2)) 1 (upd ((va_up r 0 (upd (r 0) a1.toNatClampNeg a2)) 1) a1.toNatClampNeg a3)) else none else none else (f_X8_fails (upd v 0 0) r (4 : Int32)).bind (fun y11 => some (y11.1, (y11.2.1, y11.2.2)))) else some ((-2), ((upd v 0 0), r))) else some ((-2), ((upd v 0 0), r))) else some ((-1), ((upd v 0 0), r)))
set_option maxHeartbeats 4000000 in
set_option maxRecDepth 100000 in
theorem c_X8_sheet (l : Launch) (D : va_G) (cy : Nat → ClassId) (A : Nat → Nat) (X : va_W) (A0 : Nat → Prop) (v : Nat → Int32) (r : Nat → Nat → Int32) (a1 : Int32) (a2 : Int32) (a3 : Int32) (res : Int32) (v2 : Nat → Int32) (r2 : Nat → Nat → Int32) (hres : f_X8_sheet v r a1 a2 a3 = some (res, (v2, r2))) : Met l yX8_sheet wsX8_sheet rm_X8_sheet (va_Pc [.ref (A 0), .int a1, .int a2, .int a3] (GW D (tyM cy) (pcM cy A v r ++ X) A0)) (QW (some (.int res)) (GW D (tyM cy) (pcM cy A v2 r2 ++ X) A0) A0) 0 0 A0 := by
  refine Met.ofW (cc := cX8_sheet) (maxL := 5) (ret := (some .int)) (by decide) rfl ?_
  intro p e s m args below meth c s₁ B hml hv
  obtain ⟨hargs, hP, hK, hD0, hN⟩ := hv
  have hx := B.exec
  have hb := B.bytes
  have hr := B.returns
  have hts := atoms_spec (ws := wsX8_sheet) B.pre
  have hown : s.vm.findClass RX8 = some m.cls := findClass_of_methodNamed B.named
  have hlocks := B.notSynchronized
  have hI : IW D (pcM cy A v r ++ X) A0 s.heap s.heap [] := ⟨hP, hD0, va_S.rf⟩
  have S : CallFix p m c cX8_sheet 5 s args wsX8_sheet RX8 := ⟨hx, hb, hml, hown, hts⟩
  have in8 : ∀ w ∈ wsX80, w ∈ wsX8_sheet := fun _ h => List.mem_cons_of_mem _ (List.mem_append_right _ h)
  have hl := lv_entry ([.ref (A 0), .int a1, .int a2, .int a3]) (n := 5) (Nat.le_of_ble_eq_true rfl)
  have hE : entryFrame m args 5 = F0 m 0 ((lg_sl ([.ref (A 0), .int a1, .int a2, .int a3]) ++ List.replicate (5 - (lg_sl ([.ref (A 0), .int a1, .int a2, .int a3])).length) Slot.unset).toArray) [] := by rw [hargs]; exact lg_entry_eq m [.ref (A 0), .int a1, .int a2, .int a3] 5
  rw [hE]
  generalize (lg_sl ([.ref (A 0), .int a1, .int a2, .int a3]) ++ List.replicate (5 - (lg_sl ([.ref (A 0), .int a1, .int a2, .int a3])).length) Slot.unset).toArray = ls at hl ⊢
  have hl : lv_has ls 5 [(0, .ref (A 0)), (1, .int a1), (2, .int a2), (3, .int a3)] := hl
  unfold f_X8_sheet at hres
  refine lv_aload_n hx hb dX8_sheet_0 rfl (lv_at hl 0 rfl) ?_
  refine lv_iconst (v := 0) hx hb dX8_sheet_1 (by decide) ?_
  refine pM_fault hx hb hts in8 hown hK hI (hts (.fieldLink RX8 64 "TrickHouseModel" "fault" "I") (by decide +kernel)) dX8_sheet_2 (fun H locs hI => ?_)
  refine lv_iload_n hx hb dX8_sheet_5 rfl (lv_at hl 1 rfl) ?_
  refine pu_s S (c_X8_isSheet l a1 _ rfl) (va_cwS 1 hts gX8_sheet_X8_isSheet rfl rfl rfl (by decide +kernel) ⟨Nat.le_of_ble_eq_true rfl, Nat.le_of_ble_eq_true rfl⟩) hN rfl hl.1 rfl (Nat.le_of_ble_eq_true rfl) dX8_sheet_6 ⟨Nat.zero_le _, Nat.zero_le _⟩ ?_
  refine lv_if_ne (tgt := 14) hx hb dX8_sheet_9 (by decide) (fun c2 => ?_) (fun c2 => ?_)
  · replace hres := (if_pos (bI_t c2)).symm.trans hres
    refine lv_iload_n hx hb dX8_sheet_14 rfl (lv_at hl 2 rfl) ?_
    refine pu_s S (c_X8_isSort l a2 _ rfl) (va_cwS 1 hts gX8_sheet_X8_isSort rfl rfl rfl (by decide +kernel) ⟨Nat.le_of_ble_eq_true rfl, Nat.le_of_ble_eq_true rfl⟩) hN rfl hl.1 rfl (Nat.le_of_ble_eq_true rfl) dX8_sheet_15 ⟨Nat.zero_le _, Nat.zero_le _⟩ ?_
    refine lv_if_eq (tgt := 27) hx hb dX8_sheet_18 (by decide) (fun c4 => ?_) (fun c4 => ?_)
    · replace hres := (if_neg (bI_f c4)).symm.trans hres
      refine lv_bipush (v := (-2)) hx hb dX8_sheet_27 (by decide) ?_
      obtain ⟨rfl, rfl, rfl⟩ := pr3 hres
      exact W.iret hx hb hr (fun t ht hW => ⟨rfl, ⟨by rw [ht]; exact hI.1, va_K.moved hW.alike hK, hI.2.1, NW.warm hW hN⟩, hI.2.2.F ht⟩) hI.2.2.2.2 dX8_sheet_29
    · replace hres := (if_pos (bI_t c4)).symm.trans hres
      refine lv_iload_n hx hb dX8_sheet_21 rfl (lv_at hl 3 rfl) ?_
      refine lv_bipush (v := 60) hx hb dX8_sheet_22 (by decide) ?_
      refine lv_icmp_le (tgt := 30) hx hb dX8_sheet_24 (by decide) (fun c5 => ?_) (fun c5 => ?_)
      · replace hres := (if_pos c5).symm.trans hres
        refine lv_iload_n hx hb dX8_sheet_30 rfl (lv_at hl 3 rfl) ?_
        refine lv_if_ge (tgt := 40) hx hb dX8_sheet_31 (by decide) (fun c6 => ?_) (fun c6 => ?_)
        · replace hres := (if_pos c6).symm.trans hres
          refine lv_aload_n hx hb dX8_sheet_40 rfl (lv_at hl 0 rfl) ?_
          refine gM_sorts hx hb hts in8 hown hK hI (hts (.fieldLink RX8 9 "TrickHouseModel" "sorts" "[I") (by decide +kernel)) dX8_sheet_41 ?_
          refine lv_iload_n hx hb dX8_sheet_44 rfl (lv_at hl 1 rfl) ?_
          refine lv_iload_n hx hb dX8_sheet_45 rfl (lv_at hl 2 rfl) ?_
          obtain ⟨g7, hres⟩ := gd hres
          refine th_ist hx hb hK hI 1 0 rfl rfl g7 stM_r1 dX8_sheet_46 (fun H locs hI => ?_)
          refine lv_aload_n hx hb dX8_sheet_47 rfl (lv_at hl 0 rfl) ?_
          refine gM_sheetLong hx hb hts in8 hown hK hI (hts (.fieldLink RX8 13 "TrickHouseModel" "sheetLong" "[I") (by decide +kernel)) dX8_sheet_48 ?_
          refine lv_iload_n hx hb dX8_sheet_51 rfl (lv_at hl 1 rfl) ?_
          refine lv_iload_n hx hb dX8_sheet_52 rfl (lv_at hl 3 rfl) ?_
          obtain ⟨g8, hres⟩ := gd hres
          refine th_ist hx hb hK hI 2 0 rfl rfl g8 stM_r2 dX8_sheet_53 (fun H locs hI => ?_)
          refine lv_iconst (v := 0) hx hb dX8_sheet_54 (by decide) ?_
          refine lv_istore (lv' := [(4, .int 0), (0, .ref (A 0)), (1, .int a1), (2, .int a2), (3, .int a3)]) hx hb dX8_sheet_55 hl (by decide) rfl (fun ls hl => ?_)
          have w57 : ∀ (n57 : Nat) (x4 : Int32) (v : (Nat → Int32)) (r : (Nat → Nat → Int32)), ∀ (H : Heap) (locs : List Loc), IW D (pcM cy A v r ++ X) A0 s.heap H locs → f_X8_sheet_57 a1 a2 a3 n57 x4 v r = some (res, (v2, r2)) → ∀ ls : Array Slot, lv_has ls 5 [(4, .int x4), (0, .ref (A 0)), (1, .int a1)] → W p l e (headSpec wsX8_sheet rm_X8_sheet).room s m args below meth c H locs 0 0 (MQ below (QW (some (.int res)) (GW D (tyM cy) (pcM cy A v2 r2 ++ X) A0) A0) args s 0 0 A0) (F0 m 57 ls []) := by
            intro n57
            induction n57 with
            | zero =>
              intro x4 v r H locs hI hres
              have hres : (none : Option (Int32 × ST)) = some (res, (v2, r2)) := hres
              cases hres
            | succ n57 ih57 =>
              intro x4 v r H locs hI hres ls hl
              replace hres := (f_X8_sheet_57_s a1 a2 a3 n57 x4 v r).symm.trans hres
              refine lv_iload hx hb dX8_sheet_57 (lv_at hl 0 rfl) ?_
              refine lv_bipush (v := 60) hx hb dX8_sheet_59 (by decide) ?_
              refine lv_icmp_ge (tgt := 83) hx hb dX8_sheet_61 (by decide) (fun c9 => ?_) (fun c9 => ?_)
              · replace hres := (if_pos c9).symm.trans hres
                refine lv_iconst (v := 1) hx hb dX8_sheet_83 (by decide) ?_
                obtain ⟨rfl, rfl, rfl⟩ := pr3 hres
                exact W.iret hx hb hr (fun t ht hW => ⟨rfl, ⟨by rw [ht]; exact hI.1, va_K.moved hW.alike hK, hI.2.1, NW.warm hW hN⟩, hI.2.2.F ht⟩) hI.2.2.2.2 dX8_sheet_84
              · replace hres := (if_neg c9).symm.trans hres
                refine lv_aload_n hx hb dX8_sheet_64 rfl (lv_at hl 1 rfl) ?_
                refine gM_cells hx hb hts in8 hown hK hI (hts (.fieldLink RX8 16 "TrickHouseModel" "cells" "[I") (by decide +kernel)) dX8_sheet_65 ?_
                refine lv_bipush (v := 60) hx hb dX8_sheet_68 (by decide) ?_
                refine lv_iload_n hx hb dX8_sheet_70 rfl (lv_at hl 2 rfl) ?_
                refine lv_imul hx hb dX8_sheet_71 ?_
                refine lv_iload hx hb dX8_sheet_72 (lv_at hl 0 rfl) ?_
                refine lv_iadd hx hb dX8_sheet_74 ?_
                refine lv_iconst (v := 0) hx hb dX8_sheet_75 (by decide) ?_
                obtain ⟨g10, hres⟩ := gd hres
                refine th_ist hx hb hK hI 3 0 rfl rfl g10 stM_r3 dX8_sheet_76 (fun H locs hI => ?_)
                refine lv_iinc (v := (x4 + 1)) (lv' := [(4, .int (x4 + 1)), (0, .ref (A 0)), (1, .int a1)]) hx hb dX8_sheet_77 hl (k := 0) rfl rfl (by decide) rfl (fun ls hl => ?_)
                refine lv_goto (tgt := 57) hx hb dX8_sheet_80 (by decide) ?_
                exact ih57 (x4 + 1) v (va_up r 2 (upd (r 2) ((60 * a1) + x4).toNatClampNeg 0)) _ _ hI hres ls (lv_sub hl [0, 1, 2] rfl)
          exact w57 80 (0 : Int32) (upd v 0 0) (va_up (va_up r 0 (upd (r 0) a1.toNatClampNeg a2)) 1 (upd ((va_up r 0 (upd (r 0) a1.toNatClampNeg a2)) 1) a1.toNatClampNeg a3)) _ _ hI hres ls (lv_sub hl [0, 1, 2] rfl)
        · replace hres := (if_neg c6).symm.trans hres
          refine lv_aload_n hx hb dX8_sheet_34 rfl (lv_at hl 0 rfl) ?_
          refine lv_iconst (v := 4) hx hb dX8_sheet_35 (by decide) ?_
          obtain ⟨y11, e11, hres⟩ := bd hres
          refine rw_v S (c_X8_fails l D cy A X A0 (upd v 0 0) r (4 : Int32) y11.1 y11.2.1 y11.2.2 e11) (cwV 1 hts gX8_sheet_X8_fails rfl rfl rfl (by decide +kernel) ⟨Nat.le_of_ble_eq_true rfl, Nat.le_of_ble_eq_true rfl⟩) hI hK hN (ci := 7) rfl (atM_0) rfl rfl hl.1 rfl (Nat.le_of_ble_eq_true rfl) dX8_sheet_36 ⟨Nat.zero_le _, Nat.zero_le _⟩ (fun H locs hI => ?_)
          obtain ⟨rfl, rfl, rfl⟩ := pr3 hres
          exact W.iret hx hb hr (fun t ht hW => ⟨rfl, ⟨by rw [ht]; exact hI.1, va_K.moved hW.alike hK, hI.2.1, NW.warm hW hN⟩, hI.2.2.F ht⟩) hI.2.2.2.2 dX8_sheet_39
      · replace hres := (if_neg c5).symm.trans hres
        refine lv_bipush (v := (-2)) hx hb dX8_sheet_27 (by decide) ?_
        obtain ⟨rfl, rfl, rfl⟩ := pr3 hres
        exact W.iret hx hb hr (fun t ht hW => ⟨rfl, ⟨by rw [ht]; exact hI.1, va_K.moved hW.alike hK, hI.2.1, NW.warm hW hN⟩, hI.2.2.F ht⟩) hI.2.2.2.2 dX8_sheet_29
  · replace hres := (if_neg (bI_f c2)).symm.trans hres
    refine lv_iconst (v := (-1)) hx hb dX8_sheet_12 (by decide) ?_
    obtain ⟨rfl, rfl, rfl⟩ := pr3 hres
    exact W.iret hx hb hr (fun t ht hW => ⟨rfl, ⟨by rw [ht]; exact hI.1, va_K.moved hW.alike hK, hI.2.1, NW.warm hW hN⟩, hI.2.2.F ht⟩) hI.2.2.2.2 dX8_sheet_13
abbrev rm_X8_lose : Room := { frames := 2, cells := 0, slots := 0, locals := 42 }
def f_X8_lose (v : Nat → Int32) (r : Nat → Nat → Int32) (a1 : Int32) : Option (Int32 × ST) := (if (f_X8_isSheet a1) = true then if inR a1 4 = true then (if (r 0 a1.toNatClampNeg) = (-9) then if inR a1 4 = true then some (0, (v, (va_up r 0 (upd (r 0) a1.toNatClampNeg (-9))))) else none else if inR a1 4 = true then some (1, (v, (va_up r 0 (upd (r 0) a1.toNatClampNeg (-9))))) else none) else none else some ((-1), (v, r)))
set_option maxHeartbeats 4000000 in
set_option maxRecDepth 100000 in
theorem c_X8_lose (l : Launch) (D : va_G) (cy : Nat → ClassId) (A : Nat → Nat) (X : va_W) (A0 : Nat → Prop) (v : Nat → Int32) (r : Nat → Nat → Int32) (a1 : Int32) (res : Int32) (v2 : Nat → Int32) (r2 : Nat → Nat → Int32) (hres : f_X8_lose v r a1 = some (res, (v2, r2))) : Met l yX8_lose wsX8_lose rm_X8_lose (va_Pc [.ref (A 0), .int a1] (GW D (tyM cy) (pcM cy A v r ++ X) A0)) (QW (some (.int res)) (GW D (tyM cy) (pcM cy A v2 r2 ++ X) A0) A0) 0 0 A0 := by
  refine Met.ofW (cc := cX8_lose) (maxL := 3) (ret := (some .int)) (by decide) rfl ?_
  intro p e s m args below meth c s₁ B hml hv
  obtain ⟨hargs, hP, hK, hD0, hN⟩ := hv
  have hx := B.exec
  have hb := B.bytes
  have hr := B.returns
  have hts := atoms_spec (ws := wsX8_lose) B.pre
  have hown : s.vm.findClass RX8 = some m.cls := findClass_of_methodNamed B.named
  have hlocks := B.notSynchronized
  have hI : IW D (pcM cy A v r ++ X) A0 s.heap s.heap [] := ⟨hP, hD0, va_S.rf⟩
  have S : CallFix p m c cX8_lose 3 s args wsX8_lose RX8 := ⟨hx, hb, hml, hown, hts⟩
  have in8 : ∀ w ∈ wsX80, w ∈ wsX8_lose := fun _ h => List.mem_cons_of_mem _ (List.mem_append_right _ h)
  have hl := lv_entry ([.ref (A 0), .int a1]) (n := 3) (Nat.le_of_ble_eq_true rfl)
  have hE : entryFrame m args 3 = F0 m 0 ((lg_sl ([.ref (A 0), .int a1]) ++ List.replicate (3 - (lg_sl ([.ref (A 0), .int a1])).length) Slot.unset).toArray) [] := by rw [hargs]; exact lg_entry_eq m [.ref (A 0), .int a1] 3
  rw [hE]
  generalize (lg_sl ([.ref (A 0), .int a1]) ++ List.replicate (3 - (lg_sl ([.ref (A 0), .int a1])).length) Slot.unset).toArray = ls at hl ⊢
  have hl : lv_has ls 3 [(0, .ref (A 0)), (1, .int a1)] := hl
  unfold f_X8_lose at hres
  refine lv_iload_n hx hb dX8_lose_0 rfl (lv_at hl 1 rfl) ?_
  refine pu_s S (c_X8_isSheet l a1 _ rfl) (va_cwS 1 hts gX8_lose_X8_isSheet rfl rfl rfl (by decide +kernel) ⟨Nat.le_of_ble_eq_true rfl, Nat.le_of_ble_eq_true rfl⟩) hN rfl hl.1 rfl (Nat.le_of_ble_eq_true rfl) dX8_lose_1 ⟨Nat.zero_le _, Nat.zero_le _⟩ ?_
  refine lv_if_ne (tgt := 9) hx hb dX8_lose_4 (by decide) (fun c2 => ?_) (fun c2 => ?_)
  · replace hres := (if_pos (bI_t c2)).symm.trans hres
    refine lv_aload_n hx hb dX8_lose_9 rfl (lv_at hl 0 rfl) ?_
    refine gM_sorts hx hb hts in8 hown hK hI (hts (.fieldLink RX8 9 "TrickHouseModel" "sorts" "[I") (by decide +kernel)) dX8_lose_10 ?_
    refine lv_iload_n hx hb dX8_lose_13 rfl (lv_at hl 1 rfl) ?_
    obtain ⟨g3, hres⟩ := gd hres
    refine th_ild hx hb hK hI 1 0 rfl rfl g3 dX8_lose_14 ?_
    refine lv_bipush (v := (-9)) hx hb dX8_lose_15 (by decide) ?_
    refine lv_icmp_ne (tgt := 24) hx hb dX8_lose_17 (by decide) (fun c4 => ?_) (fun c4 => ?_)
    · replace hres := (if_neg c4).symm.trans hres
      refine lv_iconst (v := 1) hx hb dX8_lose_24 (by decide) ?_
      refine lv_istore_n (lv' := [(2, .int 1), (0, .ref (A 0)), (1, .int a1)]) hx hb dX8_lose_25 rfl hl (by decide) rfl (fun ls hl => ?_)
      refine lv_aload_n hx hb dX8_lose_26 rfl (lv_at hl 1 rfl) ?_
      refine gM_sorts hx hb hts in8 hown hK hI (hts (.fieldLink RX8 9 "TrickHouseModel" "sorts" "[I") (by decide +kernel)) dX8_lose_27 ?_
      refine lv_iload_n hx hb dX8_lose_30 rfl (lv_at hl 2 rfl) ?_
      refine lv_bipush (v := (-9)) hx hb dX8_lose_31 (by decide) ?_
      obtain ⟨g5, hres⟩ := gd hres
      refine th_ist hx hb hK hI 1 0 rfl rfl g5 stM_r1 dX8_lose_33 (fun H locs hI => ?_)
      refine lv_iload_n hx hb dX8_lose_34 rfl (lv_at hl 0 rfl) ?_
      obtain ⟨rfl, rfl, rfl⟩ := pr3 hres
      exact W.iret hx hb hr (fun t ht hW => ⟨rfl, ⟨by rw [ht]; exact hI.1, va_K.moved hW.alike hK, hI.2.1, NW.warm hW hN⟩, hI.2.2.F ht⟩) hI.2.2.2.2 dX8_lose_35
    · replace hres := (if_pos c4).symm.trans hres
      refine lv_iconst (v := 0) hx hb dX8_lose_20 (by decide) ?_
      refine lv_goto (tgt := 25) hx hb dX8_lose_21 (by decide) ?_
      refine lv_istore_n (lv' := [(2, .int 0), (0, .ref (A 0)), (1, .int a1)]) hx hb dX8_lose_25 rfl hl (by decide) rfl (fun ls hl => ?_)
      refine lv_aload_n hx hb dX8_lose_26 rfl (lv_at hl 1 rfl) ?_
      refine gM_sorts hx hb hts in8 hown hK hI (hts (.fieldLink RX8 9 "TrickHouseModel" "sorts" "[I") (by decide +kernel)) dX8_lose_27 ?_
      refine lv_iload_n hx hb dX8_lose_30 rfl (lv_at hl 2 rfl) ?_
      refine lv_bipush (v := (-9)) hx hb dX8_lose_31 (by decide) ?_
      obtain ⟨g6, hres⟩ := gd hres
      refine th_ist hx hb hK hI 1 0 rfl rfl g6 stM_r1 dX8_lose_33 (fun H locs hI => ?_)
      refine lv_iload_n hx hb dX8_lose_34 rfl (lv_at hl 0 rfl) ?_
      obtain ⟨rfl, rfl, rfl⟩ := pr3 hres
      exact W.iret hx hb hr (fun t ht hW => ⟨rfl, ⟨by rw [ht]; exact hI.1, va_K.moved hW.alike hK, hI.2.1, NW.warm hW hN⟩, hI.2.2.F ht⟩) hI.2.2.2.2 dX8_lose_35
  · replace hres := (if_neg (bI_f c2)).symm.trans hres
    refine lv_iconst (v := (-1)) hx hb dX8_lose_7 (by decide) ?_
    obtain ⟨rfl, rfl, rfl⟩ := pr3 hres
    exact W.iret hx hb hr (fun t ht hW => ⟨rfl, ⟨by rw [ht]; exact hI.1, va_K.moved hW.alike hK, hI.2.1, NW.warm hW hN⟩, hI.2.2.F ht⟩) hI.2.2.2.2 dX8_lose_8
abbrev rm_X8_put : Room := { frames := 2, cells := 0, slots := 0, locals := 42 }
def f_X8_put (v : Nat → Int32) (r : Nat → Nat → Int32) (a1 : Int32) (a2 : Int32) (a3 : Int32) : Option (Int32 × ST) := (if (f_X8_isSheet a1) = true then if inR a1 4 = true then (if (r 0 a1.toNatClampNeg) = (-9) then (f_X8_fails (upd v 0 0) r (1 : Int32)).bind (fun y16 => some (y16.1, (y16.2.1, y16.2.2))) else if inR a1 4 = true then (if (f_X8_within a2 (0 : Int32) ((r 1 a1.toNatClampNeg) - 1)) = true then if inR a1 4 = true then (if (r 0 a1.toNatClampNeg) = 0 then if inR ((60 * a1) + a2) 240 = true then some (1, ((upd v 0 0), (va_up r 2 (upd (r 2) ((60 * a1) + a2).toNatClampNeg a3.toInt8.toInt32)))) else none else if inR a1 4 = true then (if (r 0 a1.toNatClampNeg) = 1 then if inR ((60 * a1) + a2) 240 = true then some (1, ((upd v 0 0), (va_up r 2 (upd (r 2) ((60 * a1) + a2).toNatClampNeg a3.toInt16.toInt32)))) else none else if inR ((60 * a1) + a2) 240 = true then some (1, ((upd v 0 0), (va_up r 2 (upd (r 2) ((60 * a1) + a2).toNatClampNeg a3)))) else none) else none) else none else (f_X8_fails (upd v 0 0) r (3 : Int32)).bind (fun y15 => some (y15.1, (y15.2.1, y15.2.2)))) else none) else none else some ((-1), ((upd v 0 0), r)))
set_option maxHeartbeats 4000000 in
set_option maxRecDepth 100000 in
theorem c_X8_put (l : Launch) (D : va_G) (cy : Nat → ClassId) (A : Nat → Nat) (X : va_W) (A0 : Nat → Prop) (v : Nat → Int32) (r : Nat → Nat → Int32) (a1 : Int32) (a2 : Int32) (a3 : Int32) (res : Int32) (v2 : Nat → Int32) (r2 : Nat → Nat → Int32) (hres : f_X8_put v r a1 a2 a3 = some (res, (v2, r2))) : Met l yX8_put wsX8_put rm_X8_put (va_Pc [.ref (A 0), .int a1, .int a2, .int a3] (GW D (tyM cy) (pcM cy A v r ++ X) A0)) (QW (some (.int res)) (GW D (tyM cy) (pcM cy A v2 r2 ++ X) A0) A0) 0 0 A0 := by
  refine Met.ofW (cc := cX8_put) (maxL := 4) (ret := (some .int)) (by decide) rfl ?_
  intro p e s m args below meth c s₁ B hml hv
  obtain ⟨hargs, hP, hK, hD0, hN⟩ := hv
  have hx := B.exec
  have hb := B.bytes
  have hr := B.returns
  have hts := atoms_spec (ws := wsX8_put) B.pre
  have hown : s.vm.findClass RX8 = some m.cls := findClass_of_methodNamed B.named
  have hlocks := B.notSynchronized
  have hI : IW D (pcM cy A v r ++ X) A0 s.heap s.heap [] := ⟨hP, hD0, va_S.rf⟩
  have S : CallFix p m c cX8_put 4 s args wsX8_put RX8 := ⟨hx, hb, hml, hown, hts⟩
  have in8 : ∀ w ∈ wsX80, w ∈ wsX8_put := fun _ h => List.mem_cons_of_mem _ (List.mem_append_right _ h)
  have hl := lv_entry ([.ref (A 0), .int a1, .int a2, .int a3]) (n := 4) (Nat.le_of_ble_eq_true rfl)
  have hE : entryFrame m args 4 = F0 m 0 ((lg_sl ([.ref (A 0), .int a1, .int a2, .int a3]) ++ List.replicate (4 - (lg_sl ([.ref (A 0), .int a1, .int a2, .int a3])).length) Slot.unset).toArray) [] := by rw [hargs]; exact lg_entry_eq m [.ref (A 0), .int a1, .int a2, .int a3] 4
  rw [hE]
  generalize (lg_sl ([.ref (A 0), .int a1, .int a2, .int a3]) ++ List.replicate (4 - (lg_sl ([.ref (A 0), .int a1, .int a2, .int a3])).length) Slot.unset).toArray = ls at hl ⊢
  have hl : lv_has ls 4 [(0, .ref (A 0)), (1, .int a1), (2, .int a2), (3, .int a3)] := hl
  unfold f_X8_put at hres
  refine lv_aload_n hx hb dX8_put_0 rfl (lv_at hl 0 rfl) ?_
  refine lv_iconst (v := 0) hx hb dX8_put_1 (by decide) ?_
  refine pM_fault hx hb hts in8 hown hK hI (hts (.fieldLink RX8 64 "TrickHouseModel" "fault" "I") (by decide +kernel)) dX8_put_2 (fun H locs hI => ?_)
  refine lv_iload_n hx hb dX8_put_5 rfl (lv_at hl 1 rfl) ?_
  refine pu_s S (c_X8_isSheet l a1 _ rfl) (va_cwS 1 hts gX8_put_X8_isSheet rfl rfl rfl (by decide +kernel) ⟨Nat.le_of_ble_eq_true rfl, Nat.le_of_ble_eq_true rfl⟩) hN rfl hl.1 rfl (Nat.le_of_ble_eq_true rfl) dX8_put_6 ⟨Nat.zero_le _, Nat.zero_le _⟩ ?_
  refine lv_if_ne (tgt := 14) hx hb dX8_put_9 (by decide) (fun c2 => ?_) (fun c2 => ?_)
  · replace hres := (if_pos (bI_t c2)).symm.trans hres
    refine lv_aload_n hx hb dX8_put_14 rfl (lv_at hl 0 rfl) ?_
    refine gM_sorts hx hb hts in8 hown hK hI (hts (.fieldLink RX8 9 "TrickHouseModel" "sorts" "[I") (by decide +kernel)) dX8_put_15 ?_
    refine lv_iload_n hx hb dX8_put_18 rfl (lv_at hl 1 rfl) ?_
    obtain ⟨g3, hres⟩ := gd hres
    refine th_ild hx hb hK hI 1 0 rfl rfl g3 dX8_put_19 ?_
    refine lv_bipush (v := (-9)) hx hb dX8_put_20 (by decide) ?_
    refine lv_icmp_ne (tgt := 31) hx hb dX8_put_22 (by decide) (fun c4 => ?_) (fun c4 => ?_)
    · replace hres := (if_neg c4).symm.trans hres
      refine lv_iload_n hx hb dX8_put_31 rfl (lv_at hl 2 rfl) ?_
      refine lv_iconst (v := 0) hx hb dX8_put_32 (by decide) ?_
      refine lv_aload_n hx hb dX8_put_33 rfl (lv_at hl 0 rfl) ?_
      refine gM_sheetLong hx hb hts in8 hown hK hI (hts (.fieldLink RX8 13 "TrickHouseModel" "sheetLong" "[I") (by decide +kernel)) dX8_put_34 ?_
      refine lv_iload_n hx hb dX8_put_37 rfl (lv_at hl 1 rfl) ?_
      obtain ⟨g5, hres⟩ := gd hres
      refine th_ild hx hb hK hI 2 0 rfl rfl g5 dX8_put_38 ?_
      refine lv_iconst (v := 1) hx hb dX8_put_39 (by decide) ?_
      refine lv_isub hx hb dX8_put_40 ?_
      refine pu_s S (c_X8_within l a2 (0 : Int32) ((r 1 a1.toNatClampNeg) - 1) _ rfl) (va_cwS 3 hts gX8_put_X8_within rfl rfl rfl (by decide +kernel) ⟨Nat.le_of_ble_eq_true rfl, Nat.le_of_ble_eq_true rfl⟩) hN rfl hl.1 rfl (Nat.le_of_ble_eq_true rfl) dX8_put_41 ⟨Nat.zero_le _, Nat.zero_le _⟩ ?_
      refine lv_if_ne (tgt := 53) hx hb dX8_put_44 (by decide) (fun c7 => ?_) (fun c7 => ?_)
      · replace hres := (if_pos (bI_t c7)).symm.trans hres
        refine lv_aload_n hx hb dX8_put_53 rfl (lv_at hl 0 rfl) ?_
        refine gM_cells hx hb hts in8 hown hK hI (hts (.fieldLink RX8 16 "TrickHouseModel" "cells" "[I") (by decide +kernel)) dX8_put_54 ?_
        refine lv_bipush (v := 60) hx hb dX8_put_57 (by decide) ?_
        refine lv_iload_n hx hb dX8_put_59 rfl (lv_at hl 1 rfl) ?_
        refine lv_imul hx hb dX8_put_60 ?_
        refine lv_iload_n hx hb dX8_put_61 rfl (lv_at hl 2 rfl) ?_
        refine lv_iadd hx hb dX8_put_62 ?_
        refine lv_aload_n hx hb dX8_put_63 rfl (lv_at hl 0 rfl) ?_
        refine gM_sorts hx hb hts in8 hown hK hI (hts (.fieldLink RX8 9 "TrickHouseModel" "sorts" "[I") (by decide +kernel)) dX8_put_64 ?_
        refine lv_iload_n hx hb dX8_put_67 rfl (lv_at hl 1 rfl) ?_
        obtain ⟨g8, hres⟩ := gd hres
        refine th_ild hx hb hK hI 1 0 rfl rfl g8 dX8_put_68 ?_
        refine lv_if_ne (tgt := 77) hx hb dX8_put_69 (by decide) (fun c9 => ?_) (fun c9 => ?_)
        · replace hres := (if_neg c9).symm.trans hres
          refine lv_aload_n hx hb dX8_put_77 rfl (lv_at hl 0 rfl) ?_
          refine gM_sorts hx hb hts in8 hown hK hI (hts (.fieldLink RX8 9 "TrickHouseModel" "sorts" "[I") (by decide +kernel)) dX8_put_78 ?_
          refine lv_iload_n hx hb dX8_put_81 rfl (lv_at hl 1 rfl) ?_
          obtain ⟨g10, hres⟩ := gd hres
          refine th_ild hx hb hK hI 1 0 rfl rfl g10 dX8_put_82 ?_
          refine lv_iconst (v := 1) hx hb dX8_put_83 (by decide) ?_
          refine lv_icmp_ne (tgt := 92) hx hb dX8_put_84 (by decide) (fun c11 => ?_) (fun c11 => ?_)
          · replace hres := (if_neg c11).symm.trans hres
            refine lv_iload_n hx hb dX8_put_92 rfl (lv_at hl 3 rfl) ?_
            obtain ⟨g12, hres⟩ := gd hres
            refine th_ist hx hb hK hI 3 0 rfl rfl g12 stM_r3 dX8_put_93 (fun H locs hI => ?_)
            refine lv_iconst (v := 1) hx hb dX8_put_94 (by decide) ?_
            obtain ⟨rfl, rfl, rfl⟩ := pr3 hres
            exact W.iret hx hb hr (fun t ht hW => ⟨rfl, ⟨by rw [ht]; exact hI.1, va_K.moved hW.alike hK, hI.2.1, NW.warm hW hN⟩, hI.2.2.F ht⟩) hI.2.2.2.2 dX8_put_95
          · replace hres := (if_pos c11).symm.trans hres
            refine lv_iload_n hx hb dX8_put_87 rfl (lv_at hl 3 rfl) ?_
            refine lv_i2s hx hb dX8_put_88 rfl ?_
            refine lv_goto (tgt := 93) hx hb dX8_put_89 (by decide) ?_
            obtain ⟨g13, hres⟩ := gd hres
            refine th_ist hx hb hK hI 3 0 rfl rfl g13 stM_r3 dX8_put_93 (fun H locs hI => ?_)
            refine lv_iconst (v := 1) hx hb dX8_put_94 (by decide) ?_
            obtain ⟨rfl, rfl, rfl⟩ := pr3 hres
            exact W.iret hx hb hr (fun t ht hW => ⟨rfl, ⟨by rw [ht]; exact hI.1, va_K.moved hW.alike hK, hI.2.1, NW.warm hW hN⟩, hI.2.2.F ht⟩) hI.2.2.2.2 dX8_put_95
        · replace hres := (if_pos c9).symm.trans hres
          refine lv_iload_n hx hb dX8_put_72 rfl (lv_at hl 3 rfl) ?_
          refine lv_i2b hx hb dX8_put_73 rfl ?_
          refine lv_goto (tgt := 93) hx hb dX8_put_74 (by decide) ?_
          obtain ⟨g14, hres⟩ := gd hres
          refine th_ist hx hb hK hI 3 0 rfl rfl g14 stM_r3 dX8_put_93 (fun H locs hI => ?_)
          refine lv_iconst (v := 1) hx hb dX8_put_94 (by decide) ?_
          obtain ⟨rfl, rfl, rfl⟩ := pr3 hres
          exact W.iret hx hb hr (fun t ht hW => ⟨rfl, ⟨by rw [ht]; exact hI.1, va_K.moved hW.alike hK, hI.2.1, NW.warm hW hN⟩, hI.2.2.F ht⟩) hI.2.2.2.2 dX8_put_95
      · replace hres := (if_neg (bI_f c7)).symm.trans hres
        refine lv_aload_n hx hb dX8_put_47 rfl (lv_at hl 0 rfl) ?_
        refine lv_iconst (v := 3) hx hb dX8_put_48 (by decide) ?_
        obtain ⟨y15, e15, hres⟩ := bd hres
        refine rw_v S (c_X8_fails l D cy A X A0 (upd v 0 0) r (3 : Int32) y15.1 y15.2.1 y15.2.2 e15) (cwV 1 hts gX8_put_X8_fails rfl rfl rfl (by decide +kernel) ⟨Nat.le_of_ble_eq_true rfl, Nat.le_of_ble_eq_true rfl⟩) hI hK hN (ci := 7) rfl (atM_0) rfl rfl hl.1 rfl (Nat.le_of_ble_eq_true rfl) dX8_put_49 ⟨Nat.zero_le _, Nat.zero_le _⟩ (fun H locs hI => ?_)
        obtain ⟨rfl, rfl, rfl⟩ := pr3 hres
        exact W.iret hx hb hr (fun t ht hW => ⟨rfl, ⟨by rw [ht]; exact hI.1, va_K.moved hW.alike hK, hI.2.1, NW.warm hW hN⟩, hI.2.2.F ht⟩) hI.2.2.2.2 dX8_put_52
    · replace hres := (if_pos c4).symm.trans hres
      refine lv_aload_n hx hb dX8_put_25 rfl (lv_at hl 0 rfl) ?_
      refine lv_iconst (v := 1) hx hb dX8_put_26 (by decide) ?_
      obtain ⟨y16, e16, hres⟩ := bd hres
      refine rw_v S (c_X8_fails l D cy A X A0 (upd v 0 0) r (1 : Int32) y16.1 y16.2.1 y16.2.2 e16) (cwV 1 hts gX8_put_X8_fails rfl rfl rfl (by decide +kernel) ⟨Nat.le_of_ble_eq_true rfl, Nat.le_of_ble_eq_true rfl⟩) hI hK hN (ci := 7) rfl (atM_0) rfl rfl hl.1 rfl (Nat.le_of_ble_eq_true rfl) dX8_put_27 ⟨Nat.zero_le _, Nat.zero_le _⟩ (fun H locs hI => ?_)
      obtain ⟨rfl, rfl, rfl⟩ := pr3 hres
      exact W.iret hx hb hr (fun t ht hW => ⟨rfl, ⟨by rw [ht]; exact hI.1, va_K.moved hW.alike hK, hI.2.1, NW.warm hW hN⟩, hI.2.2.F ht⟩) hI.2.2.2.2 dX8_put_30
  · replace hres := (if_neg (bI_f c2)).symm.trans hres
    refine lv_iconst (v := (-1)) hx hb dX8_put_12 (by decide) ?_
    obtain ⟨rfl, rfl, rfl⟩ := pr3 hres
    exact W.iret hx hb hr (fun t ht hW => ⟨rfl, ⟨by rw [ht]; exact hI.1, va_K.moved hW.alike hK, hI.2.1, NW.warm hW hN⟩, hI.2.2.F ht⟩) hI.2.2.2.2 dX8_put_13
abbrev rm_X8_cell : Room := { frames := 2, cells := 0, slots := 0, locals := 42 }
def f_X8_cell (v : Nat → Int32) (r : Nat → Nat → Int32) (a1 : Int32) (a2 : Int32) (a3 : Int32) : Option (Int64 × ST) := (if (f_X8_isSheet a1) = true then (if (f_X8_isSort a3) = true then if inR a1 4 = true then (if (r 0 a1.toNatClampNeg) = (-9) then if inR a1 4 = true then (if (r 0 a1.toNatClampNeg) = (-9) then (f_X8_lost (upd v 0 0) r (1 : Int32)).bind (fun y14 => some (y14.1, (y14.2.1, y14.2.2))) else if inR a1 4 = true then (if (f_X8_within a2 (0 : Int32) ((r 1 a1.toNatClampNeg) - 1)) = true then if inR ((60 * a1) + a2) 240 = true then some ((r 2 ((60 * a1) + a2).toNatClampNeg).toInt64, ((upd v 0 0), r)) else none else (f_X8_lost (upd v 0 0) r (3 : Int32)).bind (fun y13 => some (y13.1, (y13.2.1, y13.2.2)))) else none) else none else if inR a1 4 = true then (if (r 0 a1.toNatClampNeg) = a3 then if inR a1 4 = true then (if (r 0 a1.toNatClampNeg) = (-9) then (f_X8_lost (upd v 0 0) r (1 : Int32)).bind (fun y24 => some (y24.1, (y24.2.1, y24.2.2))) else if inR a1 4 = true then (if (f_X8_within a2 (0 : Int32) ((r 1 a1.toNatClampNeg) - 1)) = true then if inR ((60 * a1) + a2) 240 = true then some ((r 2 ((60 * a1) + a2).toNatClampNeg).toInt64, ((upd v 0 0), r)) else none else (f_X8_lost (upd v 0 0) r (3 : Int32)).bind (fun y23 => some (y23.1, (y23.2.1, y23.2.2)))) else none) else none else (f_X8_lost (upd v 0 0) r (2 : Int32)).bind (fun y25 => some (y25.1, (y25.2.1, y25.2.2)))) else none) else none else some (((-9223372036854775808) : Int64), ((upd v 0 0), r))) else some (((-9223372036854775808) : Int64), ((upd v 0 0), r)))
set_option maxHeartbeats 4000000 in
set_option maxRecDepth 100000 in
theorem c_X8_cell (l : Launch) (D : va_G) (cy : Nat → ClassId) (A : Nat → Nat) (X : va_W) (A0 : Nat → Prop) (v : Nat → Int32) (r : Nat → Nat → Int32) (a1 : Int32) (a2 : Int32) (a3 : Int32) (res : Int64) (v2 : Nat → Int32) (r2 : Nat → Nat → Int32) (hres : f_X8_cell v r a1 a2 a3 = some (res, (v2, r2))) : Met l yX8_cell wsX8_cell rm_X8_cell (va_Pc [.ref (A 0), .int a1, .int a2, .int a3] (GW D (tyM cy) (pcM cy A v r ++ X) A0)) (QW (some (.long res)) (GW D (tyM cy) (pcM cy A v2 r2 ++ X) A0) A0) 0 0 A0 := by
  refine Met.ofW (cc := cX8_cell) (maxL := 4) (ret := (some .long)) (by decide) rfl ?_
  intro p e s m args below meth c s₁ B hml hv
  obtain ⟨hargs, hP, hK, hD0, hN⟩ := hv
  have hx := B.exec
  have hb := B.bytes
  have hr := B.returns
  have hts := atoms_spec (ws := wsX8_cell) B.pre
  have hown : s.vm.findClass RX8 = some m.cls := findClass_of_methodNamed B.named
  have hlocks := B.notSynchronized
  have hI : IW D (pcM cy A v r ++ X) A0 s.heap s.heap [] := ⟨hP, hD0, va_S.rf⟩
  have S : CallFix p m c cX8_cell 4 s args wsX8_cell RX8 := ⟨hx, hb, hml, hown, hts⟩
  have in8 : ∀ w ∈ wsX80, w ∈ wsX8_cell := fun _ h => List.mem_cons_of_mem _ (List.mem_append_right _ h)
  have hl := lv_entry ([.ref (A 0), .int a1, .int a2, .int a3]) (n := 4) (Nat.le_of_ble_eq_true rfl)
  have hE : entryFrame m args 4 = F0 m 0 ((lg_sl ([.ref (A 0), .int a1, .int a2, .int a3]) ++ List.replicate (4 - (lg_sl ([.ref (A 0), .int a1, .int a2, .int a3])).length) Slot.unset).toArray) [] := by rw [hargs]; exact lg_entry_eq m [.ref (A 0), .int a1, .int a2, .int a3] 4
  rw [hE]
  generalize (lg_sl ([.ref (A 0), .int a1, .int a2, .int a3]) ++ List.replicate (4 - (lg_sl ([.ref (A 0), .int a1, .int a2, .int a3])).length) Slot.unset).toArray = ls at hl ⊢
  have hl : lv_has ls 4 [(0, .ref (A 0)), (1, .int a1), (2, .int a2), (3, .int a3)] := hl
  unfold f_X8_cell at hres
  refine lv_aload_n hx hb dX8_cell_0 rfl (lv_at hl 0 rfl) ?_
  refine lv_iconst (v := 0) hx hb dX8_cell_1 (by decide) ?_
  refine pM_fault hx hb hts in8 hown hK hI (hts (.fieldLink RX8 64 "TrickHouseModel" "fault" "I") (by decide +kernel)) dX8_cell_2 (fun H locs hI => ?_)
  refine lv_iload_n hx hb dX8_cell_5 rfl (lv_at hl 1 rfl) ?_
  refine pu_s S (c_X8_isSheet l a1 _ rfl) (va_cwS 1 hts gX8_cell_X8_isSheet rfl rfl rfl (by decide +kernel) ⟨Nat.le_of_ble_eq_true rfl, Nat.le_of_ble_eq_true rfl⟩) hN rfl hl.1 rfl (Nat.le_of_ble_eq_true rfl) dX8_cell_6 ⟨Nat.zero_le _, Nat.zero_le _⟩ ?_
  refine lv_if_eq (tgt := 19) hx hb dX8_cell_9 (by decide) (fun c2 => ?_) (fun c2 => ?_)
  · replace hres := (if_neg (bI_f c2)).symm.trans hres
    refine lv_ldc2 hx hb hown (hts (.constantLong RX8 68 (-9223372036854775808)) (by decide +kernel)) dX8_cell_19 ?_
    obtain ⟨rfl, rfl, rfl⟩ := pr3 hres
    exact W.lret hx hb hr (fun t ht hW => ⟨rfl, ⟨by rw [ht]; exact hI.1, va_K.moved hW.alike hK, hI.2.1, NW.warm hW hN⟩, hI.2.2.F ht⟩) hI.2.2.2.2 dX8_cell_22
  · replace hres := (if_pos (bI_t c2)).symm.trans hres
    refine lv_iload_n hx hb dX8_cell_12 rfl (lv_at hl 3 rfl) ?_
    refine pu_s S (c_X8_isSort l a3 _ rfl) (va_cwS 1 hts gX8_cell_X8_isSort rfl rfl rfl (by decide +kernel) ⟨Nat.le_of_ble_eq_true rfl, Nat.le_of_ble_eq_true rfl⟩) hN rfl hl.1 rfl (Nat.le_of_ble_eq_true rfl) dX8_cell_13 ⟨Nat.zero_le _, Nat.zero_le _⟩ ?_
    refine lv_if_ne (tgt := 23) hx hb dX8_cell_16 (by decide) (fun c4 => ?_) (fun c4 => ?_)
    · replace hres := (if_pos (bI_t c4)).symm.trans hres
      refine lv_aload_n hx hb dX8_cell_23 rfl (lv_at hl 0 rfl) ?_
      refine gM_sorts hx hb hts in8 hown hK hI (hts (.fieldLink RX8 9 "TrickHouseModel" "sorts" "[I") (by decide +kernel)) dX8_cell_24 ?_
      refine lv_iload_n hx hb dX8_cell_27 rfl (lv_at hl 1 rfl) ?_
      obtain ⟨g5, hres⟩ := gd hres
      refine th_ild hx hb hK hI 1 0 rfl rfl g5 dX8_cell_28 ?_
      refine lv_bipush (v := (-9)) hx hb dX8_cell_29 (by decide) ?_
      refine lv_icmp_eq (tgt := 50) hx hb dX8_cell_31 (by decide) (fun c6 => ?_) (fun c6 => ?_)
      · replace hres := (if_pos c6).symm.trans hres
        refine lv_aload_n hx hb dX8_cell_50 rfl (lv_at hl 0 rfl) ?_
        refine gM_sorts hx hb hts in8 hown hK hI (hts (.fieldLink RX8 9 "TrickHouseModel" "sorts" "[I") (by decide +kernel)) dX8_cell_51 ?_
        refine lv_iload_n hx hb dX8_cell_54 rfl (lv_at hl 1 rfl) ?_
        obtain ⟨g7, hres⟩ := gd hres
        refine th_ild hx hb hK hI 1 0 rfl rfl g7 dX8_cell_55 ?_
        refine lv_bipush (v := (-9)) hx hb dX8_cell_56 (by decide) ?_
        refine lv_icmp_ne (tgt := 67) hx hb dX8_cell_58 (by decide) (fun c8 => ?_) (fun c8 => ?_)
        · replace hres := (if_neg c8).symm.trans hres
          refine lv_iload_n hx hb dX8_cell_67 rfl (lv_at hl 2 rfl) ?_
          refine lv_iconst (v := 0) hx hb dX8_cell_68 (by decide) ?_
          refine lv_aload_n hx hb dX8_cell_69 rfl (lv_at hl 0 rfl) ?_
          refine gM_sheetLong hx hb hts in8 hown hK hI (hts (.fieldLink RX8 13 "TrickHouseModel" "sheetLong" "[I") (by decide +kernel)) dX8_cell_70 ?_
          refine lv_iload_n hx hb dX8_cell_73 rfl (lv_at hl 1 rfl) ?_
          obtain ⟨g9, hres⟩ := gd hres
          refine th_ild hx hb hK hI 2 0 rfl rfl g9 dX8_cell_74 ?_
          refine lv_iconst (v := 1) hx hb dX8_cell_75 (by decide) ?_
          refine lv_isub hx hb dX8_cell_76 ?_
          refine pu_s S (c_X8_within l a2 (0 : Int32) ((r 1 a1.toNatClampNeg) - 1) _ rfl) (va_cwS 3 hts gX8_cell_X8_within rfl rfl rfl (by decide +kernel) ⟨Nat.le_of_ble_eq_true rfl, Nat.le_of_ble_eq_true rfl⟩) hN rfl hl.1 rfl (Nat.le_of_ble_eq_true rfl) dX8_cell_77 ⟨Nat.zero_le _, Nat.zero_le _⟩ ?_
          refine lv_if_ne (tgt := 89) hx hb dX8_cell_80 (by decide) (fun c11 => ?_) (fun c11 => ?_)
          · replace hres := (if_pos (bI_t c11)).symm.trans hres
            refine lv_aload_n hx hb dX8_cell_89 rfl (lv_at hl 0 rfl) ?_
            refine gM_cells hx hb hts in8 hown hK hI (hts (.fieldLink RX8 16 "TrickHouseModel" "cells" "[I") (by decide +kernel)) dX8_cell_90 ?_
            refine lv_bipush (v := 60) hx hb dX8_cell_93 (by decide) ?_
            refine lv_iload_n hx hb dX8_cell_95 rfl (lv_at hl 1 rfl) ?_
            refine lv_imul hx hb dX8_cell_96 ?_
            refine lv_iload_n hx hb dX8_cell_97 rfl (lv_at hl 2 rfl) ?_
            refine lv_iadd hx hb dX8_cell_98 ?_
            obtain ⟨g12, hres⟩ := gd hres
            refine th_ild hx hb hK hI 3 0 rfl rfl g12 dX8_cell_99 ?_
            refine lv_i2l hx hb dX8_cell_100 rfl ?_
            obtain ⟨rfl, rfl, rfl⟩ := pr3 hres
            exact W.lret hx hb hr (fun t ht hW => ⟨rfl, ⟨by rw [ht]; exact hI.1, va_K.moved hW.alike hK, hI.2.1, NW.warm hW hN⟩, hI.2.2.F ht⟩) hI.2.2.2.2 dX8_cell_101
          · replace hres := (if_neg (bI_f c11)).symm.trans hres
            refine lv_aload_n hx hb dX8_cell_83 rfl (lv_at hl 0 rfl) ?_
            refine lv_iconst (v := 3) hx hb dX8_cell_84 (by decide) ?_
            obtain ⟨y13, e13, hres⟩ := bd hres
            refine rw_v S (c_X8_lost l D cy A X A0 (upd v 0 0) r (3 : Int32) y13.1 y13.2.1 y13.2.2 e13) (cwV 1 hts gX8_cell_X8_lost rfl rfl rfl (by decide +kernel) ⟨Nat.le_of_ble_eq_true rfl, Nat.le_of_ble_eq_true rfl⟩) hI hK hN (ci := 7) rfl (atM_0) rfl rfl hl.1 rfl (Nat.le_of_ble_eq_true rfl) dX8_cell_85 ⟨Nat.zero_le _, Nat.zero_le _⟩ (fun H locs hI => ?_)
            obtain ⟨rfl, rfl, rfl⟩ := pr3 hres
            exact W.lret hx hb hr (fun t ht hW => ⟨rfl, ⟨by rw [ht]; exact hI.1, va_K.moved hW.alike hK, hI.2.1, NW.warm hW hN⟩, hI.2.2.F ht⟩) hI.2.2.2.2 dX8_cell_88
        · replace hres := (if_pos c8).symm.trans hres
          refine lv_aload_n hx hb dX8_cell_61 rfl (lv_at hl 0 rfl) ?_
          refine lv_iconst (v := 1) hx hb dX8_cell_62 (by decide) ?_
          obtain ⟨y14, e14, hres⟩ := bd hres
          refine rw_v S (c_X8_lost l D cy A X A0 (upd v 0 0) r (1 : Int32) y14.1 y14.2.1 y14.2.2 e14) (cwV 1 hts gX8_cell_X8_lost rfl rfl rfl (by decide +kernel) ⟨Nat.le_of_ble_eq_true rfl, Nat.le_of_ble_eq_true rfl⟩) hI hK hN (ci := 7) rfl (atM_0) rfl rfl hl.1 rfl (Nat.le_of_ble_eq_true rfl) dX8_cell_63 ⟨Nat.zero_le _, Nat.zero_le _⟩ (fun H locs hI => ?_)
          obtain ⟨rfl, rfl, rfl⟩ := pr3 hres
          exact W.lret hx hb hr (fun t ht hW => ⟨rfl, ⟨by rw [ht]; exact hI.1, va_K.moved hW.alike hK, hI.2.1, NW.warm hW hN⟩, hI.2.2.F ht⟩) hI.2.2.2.2 dX8_cell_66
      · replace hres := (if_neg c6).symm.trans hres
        refine lv_aload_n hx hb dX8_cell_34 rfl (lv_at hl 0 rfl) ?_
        refine gM_sorts hx hb hts in8 hown hK hI (hts (.fieldLink RX8 9 "TrickHouseModel" "sorts" "[I") (by decide +kernel)) dX8_cell_35 ?_
        refine lv_iload_n hx hb dX8_cell_38 rfl (lv_at hl 1 rfl) ?_
        obtain ⟨g15, hres⟩ := gd hres
        refine th_ild hx hb hK hI 1 0 rfl rfl g15 dX8_cell_39 ?_
        refine lv_iload_n hx hb dX8_cell_40 rfl (lv_at hl 3 rfl) ?_
        refine lv_icmp_eq (tgt := 50) hx hb dX8_cell_41 (by decide) (fun c16 => ?_) (fun c16 => ?_)
        · replace hres := (if_pos c16).symm.trans hres
          refine lv_aload_n hx hb dX8_cell_50 rfl (lv_at hl 0 rfl) ?_
          refine gM_sorts hx hb hts in8 hown hK hI (hts (.fieldLink RX8 9 "TrickHouseModel" "sorts" "[I") (by decide +kernel)) dX8_cell_51 ?_
          refine lv_iload_n hx hb dX8_cell_54 rfl (lv_at hl 1 rfl) ?_
          obtain ⟨g17, hres⟩ := gd hres
          refine th_ild hx hb hK hI 1 0 rfl rfl g17 dX8_cell_55 ?_
          refine lv_bipush (v := (-9)) hx hb dX8_cell_56 (by decide) ?_
          refine lv_icmp_ne (tgt := 67) hx hb dX8_cell_58 (by decide) (fun c18 => ?_) (fun c18 => ?_)
          · replace hres := (if_neg c18).symm.trans hres
            refine lv_iload_n hx hb dX8_cell_67 rfl (lv_at hl 2 rfl) ?_
            refine lv_iconst (v := 0) hx hb dX8_cell_68 (by decide) ?_
            refine lv_aload_n hx hb dX8_cell_69 rfl (lv_at hl 0 rfl) ?_
            refine gM_sheetLong hx hb hts in8 hown hK hI (hts (.fieldLink RX8 13 "TrickHouseModel" "sheetLong" "[I") (by decide +kernel)) dX8_cell_70 ?_
            refine lv_iload_n hx hb dX8_cell_73 rfl (lv_at hl 1 rfl) ?_
            obtain ⟨g19, hres⟩ := gd hres
            refine th_ild hx hb hK hI 2 0 rfl rfl g19 dX8_cell_74 ?_
            refine lv_iconst (v := 1) hx hb dX8_cell_75 (by decide) ?_
            refine lv_isub hx hb dX8_cell_76 ?_
            refine pu_s S (c_X8_within l a2 (0 : Int32) ((r 1 a1.toNatClampNeg) - 1) _ rfl) (va_cwS 3 hts gX8_cell_X8_within rfl rfl rfl (by decide +kernel) ⟨Nat.le_of_ble_eq_true rfl, Nat.le_of_ble_eq_true rfl⟩) hN rfl hl.1 rfl (Nat.le_of_ble_eq_true rfl) dX8_cell_77 ⟨Nat.zero_le _, Nat.zero_le _⟩ ?_
            refine lv_if_ne (tgt := 89) hx hb dX8_cell_80 (by decide) (fun c21 => ?_) (fun c21 => ?_)
            · replace hres := (if_pos (bI_t c21)).symm.trans hres
              refine lv_aload_n hx hb dX8_cell_89 rfl (lv_at hl 0 rfl) ?_
              refine gM_cells hx hb hts in8 hown hK hI (hts (.fieldLink RX8 16 "TrickHouseModel" "cells" "[I") (by decide +kernel)) dX8_cell_90 ?_
              refine lv_bipush (v := 60) hx hb dX8_cell_93 (by decide) ?_
              refine lv_iload_n hx hb dX8_cell_95 rfl (lv_at hl 1 rfl) ?_
              refine lv_imul hx hb dX8_cell_96 ?_
              refine lv_iload_n hx hb dX8_cell_97 rfl (lv_at hl 2 rfl) ?_
              refine lv_iadd hx hb dX8_cell_98 ?_
              obtain ⟨g22, hres⟩ := gd hres
              refine th_ild hx hb hK hI 3 0 rfl rfl g22 dX8_cell_99 ?_
              refine lv_i2l hx hb dX8_cell_100 rfl ?_
              obtain ⟨rfl, rfl, rfl⟩ := pr3 hres
              exact W.lret hx hb hr (fun t ht hW => ⟨rfl, ⟨by rw [ht]; exact hI.1, va_K.moved hW.alike hK, hI.2.1, NW.warm hW hN⟩, hI.2.2.F ht⟩) hI.2.2.2.2 dX8_cell_101
            · replace hres := (if_neg (bI_f c21)).symm.trans hres
              refine lv_aload_n hx hb dX8_cell_83 rfl (lv_at hl 0 rfl) ?_
              refine lv_iconst (v := 3) hx hb dX8_cell_84 (by decide) ?_
              obtain ⟨y23, e23, hres⟩ := bd hres
              refine rw_v S (c_X8_lost l D cy A X A0 (upd v 0 0) r (3 : Int32) y23.1 y23.2.1 y23.2.2 e23) (cwV 1 hts gX8_cell_X8_lost rfl rfl rfl (by decide +kernel) ⟨Nat.le_of_ble_eq_true rfl, Nat.le_of_ble_eq_true rfl⟩) hI hK hN (ci := 7) rfl (atM_0) rfl rfl hl.1 rfl (Nat.le_of_ble_eq_true rfl) dX8_cell_85 ⟨Nat.zero_le _, Nat.zero_le _⟩ (fun H locs hI => ?_)
              obtain ⟨rfl, rfl, rfl⟩ := pr3 hres
              exact W.lret hx hb hr (fun t ht hW => ⟨rfl, ⟨by rw [ht]; exact hI.1, va_K.moved hW.alike hK, hI.2.1, NW.warm hW hN⟩, hI.2.2.F ht⟩) hI.2.2.2.2 dX8_cell_88
          · replace hres := (if_pos c18).symm.trans hres
            refine lv_aload_n hx hb dX8_cell_61 rfl (lv_at hl 0 rfl) ?_
            refine lv_iconst (v := 1) hx hb dX8_cell_62 (by decide) ?_
            obtain ⟨y24, e24, hres⟩ := bd hres
            refine rw_v S (c_X8_lost l D cy A X A0 (upd v 0 0) r (1 : Int32) y24.1 y24.2.1 y24.2.2 e24) (cwV 1 hts gX8_cell_X8_lost rfl rfl rfl (by decide +kernel) ⟨Nat.le_of_ble_eq_true rfl, Nat.le_of_ble_eq_true rfl⟩) hI hK hN (ci := 7) rfl (atM_0) rfl rfl hl.1 rfl (Nat.le_of_ble_eq_true rfl) dX8_cell_63 ⟨Nat.zero_le _, Nat.zero_le _⟩ (fun H locs hI => ?_)
            obtain ⟨rfl, rfl, rfl⟩ := pr3 hres
            exact W.lret hx hb hr (fun t ht hW => ⟨rfl, ⟨by rw [ht]; exact hI.1, va_K.moved hW.alike hK, hI.2.1, NW.warm hW hN⟩, hI.2.2.F ht⟩) hI.2.2.2.2 dX8_cell_66
        · replace hres := (if_neg c16).symm.trans hres
          refine lv_aload_n hx hb dX8_cell_44 rfl (lv_at hl 0 rfl) ?_
          refine lv_iconst (v := 2) hx hb dX8_cell_45 (by decide) ?_
          obtain ⟨y25, e25, hres⟩ := bd hres
          refine rw_v S (c_X8_lost l D cy A X A0 (upd v 0 0) r (2 : Int32) y25.1 y25.2.1 y25.2.2 e25) (cwV 1 hts gX8_cell_X8_lost rfl rfl rfl (by decide +kernel) ⟨Nat.le_of_ble_eq_true rfl, Nat.le_of_ble_eq_true rfl⟩) hI hK hN (ci := 7) rfl (atM_0) rfl rfl hl.1 rfl (Nat.le_of_ble_eq_true rfl) dX8_cell_46 ⟨Nat.zero_le _, Nat.zero_le _⟩ (fun H locs hI => ?_)
          obtain ⟨rfl, rfl, rfl⟩ := pr3 hres
          exact W.lret hx hb hr (fun t ht hW => ⟨rfl, ⟨by rw [ht]; exact hI.1, va_K.moved hW.alike hK, hI.2.1, NW.warm hW hN⟩, hI.2.2.F ht⟩) hI.2.2.2.2 dX8_cell_49
    · replace hres := (if_neg (bI_f c4)).symm.trans hres
      refine lv_ldc2 hx hb hown (hts (.constantLong RX8 68 (-9223372036854775808)) (by decide +kernel)) dX8_cell_19 ?_
      obtain ⟨rfl, rfl, rfl⟩ := pr3 hres
      exact W.lret hx hb hr (fun t ht hW => ⟨rfl, ⟨by rw [ht]; exact hI.1, va_K.moved hW.alike hK, hI.2.1, NW.warm hW hN⟩, hI.2.2.F ht⟩) hI.2.2.2.2 dX8_cell_22
abbrev rm_X8_copy : Room := { frames := 2, cells := 0, slots := 0, locals := 42 }
def f_X8_copy_166 (a1 : Int32) (a2 : Int32) (a3 : Int32) (a4 : Int32) (a5 : Int32) : Nat → Int32 → Int32 → (Nat → Int32) → (Nat → Nat → Int32) → Option (Int32 × ST)
  | 0, _, _, _, _ => none
  | n166 + 1, x7, x8, v, r => (if a5 ≤ x8 then some (a5, (v, r)) else (if x7 = 0 then if inR (((60 * a1) + a2) + x8) 240 = true then if inR (((60 * a3) + a4) + x8) 240 = true then f_X8_copy_166 a1 a2 a3 a4 a5 n166 x7 (x8 + 1) v (va_up r 2 (upd (r 2) (((60 * a3) + a4) + x8).toNatClampNeg (r 2 (((60 * a1) + a2) + x8).toNatClampNeg))) else none else none else if inR (((60 * a1) + a2) + ((a5 - 1) - x8)) 240 = true then if inR (((60 * a3) + a4) + ((a5 - 1) - x8)) 240 = true then f_X8_copy_166 a1 a2 a3 a4 a5 n166 x7 (x8 + 1) v (va_up r 2 (upd (r 2) (((60 * a3) + a4) + ((a5 - 1) - x8)).toNatClampNeg (r 2 (((60 * a1) + a2) + ((a5 - 1) - x8)).toNatClampNeg))) else none else none))
theorem f_X8_copy_166_s (a1 : Int32) (a2 : Int32) (a3 : Int32) (a4 : Int32) (a5 : Int32) (n166 : Nat) (x7 : Int32) (x8 : Int32) (v : (Nat → Int32)) (r : (Nat → Nat → Int32)) : f_X8_copy_166 a1 a2 a3 a4 a5 (n166 + 1) x7 x8 v r = (if a5 ≤ x8 then some (a5, (v, r)) else (if x7 = 0 then if inR (((60 * a1) + a2) + x8) 240 = true then if inR (((60 * a3) + a4) + x8) 240 = true then f_X8_copy_166 a1 a2 a3 a4 a5 n166 x7 (x8 + 1) v (va_up r 2 (upd (r 2) (((60 * a3) + a4) + x8).toNatClampNeg (r 2 (((60 * a1) + a2) + x8).toNatClampNeg))) else none else none else if inR (((60 * a1) + a2) + ((a5 - 1) - x8)) 240 = true then if inR (((60 * a3) + a4) + ((a5 - 1) - x8)) 240 = true then f_X8_copy_166 a1 a2 a3 a4 a5 n166 x7 (x8 + 1) v (va_up r 2 (upd (r 2) (((60 * a3) + a4) + ((a5 - 1) - x8)).toNatClampNeg (r 2 (((60 * a1) + a2) + ((a5 - 1) - x8)).toNatClampNeg))) else none else none)) := rfl
def f_X8_copy (v : Nat → Int32) (r : Nat → Nat → Int32) (a1 : Int32) (a2 : Int32) (a3 : Int32) (a4 : Int32) (a5 : Int32) : Option (Int32 × ST) := (if (f_X8_isSheet a1) = true then (if (f_X8_isSheet a3) = true then if inR a1 4 = true then (if (r 0 a1.toNatClampNeg) = (-9) then (f_X8_fails (upd v 0 0) r (1 : Int32)).bind (fun y7 => some (y7.1, (y7.2.1, y7.2.2))) else if inR a3 4 = true then (if (r 0 a3.toNatClampNeg) = (-9) then (f_X8_fails (upd v 0 0) r (1 : Int32)).bind (fun y51 => some (y51.1, (y51.2.1, y51.2.2))) else if inR a1 4 = true then if inR a3 4 = true then (if (r 0 a1.toNatClampNeg) = (r 0 a3.toNatClampNeg) then (if a2 < 0 then (f_X8_fails (upd v 0 0) r (3 : Int32)).bind (fun y15 => some (y15.1, (y15.2.1, y15.2.2))) else (if a4 < 0 then (f_X8_fails (upd v 0 0) r (3 : Int32)).bind (fun y18 => some (y18.1, (y18.2.1, y18.2.2))) else (if a5 < 0 then (f_X8_fails (upd v 0 0) r (3 : Int32)).bind (fun y21 => some (y21.1, (y21.2.1, y21.2.2))) else if inR a1 4 = true then (if (r 1 a1.toNatClampNeg) < a2 then (f_X8_fails (upd v 0 0) r (3 : Int32)).bind (fun y25 => some (y25.1, (y25.2.1, y25.2.2))) else if inR a3 4 = true then (if (r 1 a3.toNatClampNeg) < a4 then (f_X8_fails (upd v 0 0) r (3 : Int32)).bind (fun y29 => some (y29.1, (y29.2.1, y29.2.2))) else if inR a1 4 = true then (if ((r 1 a1.toNatClampNeg) - a2) < a5 then (f_X8_fails (upd v 0 0) r (3 : Int32)).bind (fun y33 => some (y33.1, (y33.2.1, y33.2.2))) else if inR a3 4 = true then (if a5 ≤ ((r 1 a3.toNatClampNeg) - a4) then (if a4 ≤ a2 then f_X8_copy_166 a1 a2 a3 a4 a5 80 (0 : Int32) (0 : Int32) (upd v 0 0) r else f_X8_copy_166 a1 a2 a3 a4 a5 80 (1 : Int32) (0 : Int32) (upd v 0 0) r) else (f_X8_fails (upd v 0 0) r (3 : Int32)).bind (fun y49 => some (y49.1, (y49.2.1, y49.2.2)))) else none) else none) else none) else none))) else (f_X8_fails (upd v 0 0) r (2 : Int32)).bind (fun y50 => some (y50.1, (y50.2.1, y50.2.2)))) else none else none) else none) else none else some ((-1), ((upd v 0 0), r))) else some ((-1), ((upd v 0 0), r)))
set_option maxHeartbeats 4000000 in
set_option maxRecDepth 100000 in
theorem c_X8_copy (l : Launch) (D : va_G) (cy : Nat → ClassId) (A : Nat → Nat) (X : va_W) (A0 : Nat → Prop) (v : Nat → Int32) (r : Nat → Nat → Int32) (a1 : Int32) (a2 : Int32) (a3 : Int32) (a4 : Int32) (a5 : Int32) (res : Int32) (v2 : Nat → Int32) (r2 : Nat → Nat → Int32) (hres : f_X8_copy v r a1 a2 a3 a4 a5 = some (res, (v2, r2))) : Met l yX8_copy wsX8_copy rm_X8_copy (va_Pc [.ref (A 0), .int a1, .int a2, .int a3, .int a4, .int a5] (GW D (tyM cy) (pcM cy A v r ++ X) A0)) (QW (some (.int res)) (GW D (tyM cy) (pcM cy A v2 r2 ++ X) A0) A0) 0 0 A0 := by
  refine Met.ofW (cc := cX8_copy) (maxL := 10) (ret := (some .int)) (by decide) rfl ?_
  intro p e s m args below meth c s₁ B hml hv
  obtain ⟨hargs, hP, hK, hD0, hN⟩ := hv
  have hx := B.exec
  have hb := B.bytes
  have hr := B.returns
  have hts := atoms_spec (ws := wsX8_copy) B.pre
  have hown : s.vm.findClass RX8 = some m.cls := findClass_of_methodNamed B.named
  have hlocks := B.notSynchronized
  have hI : IW D (pcM cy A v r ++ X) A0 s.heap s.heap [] := ⟨hP, hD0, va_S.rf⟩
  have S : CallFix p m c cX8_copy 10 s args wsX8_copy RX8 := ⟨hx, hb, hml, hown, hts⟩
  have in8 : ∀ w ∈ wsX80, w ∈ wsX8_copy := fun _ h => List.mem_cons_of_mem _ (List.mem_append_right _ h)
  have hl := lv_entry ([.ref (A 0), .int a1, .int a2, .int a3, .int a4, .int a5]) (n := 10) (Nat.le_of_ble_eq_true rfl)
  have hE : entryFrame m args 10 = F0 m 0 ((lg_sl ([.ref (A 0), .int a1, .int a2, .int a3, .int a4, .int a5]) ++ List.replicate (10 - (lg_sl ([.ref (A 0), .int a1, .int a2, .int a3, .int a4, .int a5])).length) Slot.unset).toArray) [] := by rw [hargs]; exact lg_entry_eq m [.ref (A 0), .int a1, .int a2, .int a3, .int a4, .int a5] 10
  rw [hE]
  generalize (lg_sl ([.ref (A 0), .int a1, .int a2, .int a3, .int a4, .int a5]) ++ List.replicate (10 - (lg_sl ([.ref (A 0), .int a1, .int a2, .int a3, .int a4, .int a5])).length) Slot.unset).toArray = ls at hl ⊢
  have hl : lv_has ls 10 [(0, .ref (A 0)), (1, .int a1), (2, .int a2), (3, .int a3), (4, .int a4), (5, .int a5)] := hl
  unfold f_X8_copy at hres
  refine lv_aload_n hx hb dX8_copy_0 rfl (lv_at hl 0 rfl) ?_
  refine lv_iconst (v := 0) hx hb dX8_copy_1 (by decide) ?_
  refine pM_fault hx hb hts in8 hown hK hI (hts (.fieldLink RX8 64 "TrickHouseModel" "fault" "I") (by decide +kernel)) dX8_copy_2 (fun H locs hI => ?_)
  refine lv_iload_n hx hb dX8_copy_5 rfl (lv_at hl 1 rfl) ?_
  refine pu_s S (c_X8_isSheet l a1 _ rfl) (va_cwS 1 hts gX8_copy_X8_isSheet rfl rfl rfl (by decide +kernel) ⟨Nat.le_of_ble_eq_true rfl, Nat.le_of_ble_eq_true rfl⟩) hN rfl hl.1 rfl (Nat.le_of_ble_eq_true rfl) dX8_copy_6 ⟨Nat.zero_le _, Nat.zero_le _⟩ ?_
  refine lv_if_eq (tgt := 19) hx hb dX8_copy_9 (by decide) (fun c2 => ?_) (fun c2 => ?_)
  · replace hres := (if_neg (bI_f c2)).symm.trans hres
    refine lv_iconst (v := (-1)) hx hb dX8_copy_19 (by decide) ?_
    obtain ⟨rfl, rfl, rfl⟩ := pr3 hres
    exact W.iret hx hb hr (fun t ht hW => ⟨rfl, ⟨by rw [ht]; exact hI.1, va_K.moved hW.alike hK, hI.2.1, NW.warm hW hN⟩, hI.2.2.F ht⟩) hI.2.2.2.2 dX8_copy_20
  · replace hres := (if_pos (bI_t c2)).symm.trans hres
    refine lv_iload_n hx hb dX8_copy_12 rfl (lv_at hl 3 rfl) ?_
    refine pu_s S (c_X8_isSheet l a3 _ rfl) (va_cwS 1 hts gX8_copy_X8_isSheet rfl rfl rfl (by decide +kernel) ⟨Nat.le_of_ble_eq_true rfl, Nat.le_of_ble_eq_true rfl⟩) hN rfl hl.1 rfl (Nat.le_of_ble_eq_true rfl) dX8_copy_13 ⟨Nat.zero_le _, Nat.zero_le _⟩ ?_
    refine lv_if_ne (tgt := 21) hx hb dX8_copy_16 (by decide) (fun c4 => ?_) (fun c4 => ?_)
    · replace hres := (if_pos (bI_t c4)).symm.trans hres
      refine lv_aload_n hx hb dX8_copy_21 rfl (lv_at hl 0 rfl) ?_
      refine gM_sorts hx hb hts in8 hown hK hI (hts (.fieldLink RX8 9 "TrickHouseModel" "sorts" "[I") (by decide +kernel)) dX8_copy_22 ?_
      refine lv_iload_n hx hb dX8_copy_25 rfl (lv_at hl 1 rfl) ?_
      obtain ⟨g5, hres⟩ := gd hres
      refine th_ild hx hb hK hI 1 0 rfl rfl g5 dX8_copy_26 ?_
      refine lv_bipush (v := (-9)) hx hb dX8_copy_27 (by decide) ?_
      refine lv_icmp_eq (tgt := 43) hx hb dX8_copy_29 (by decide) (fun c6 => ?_) (fun c6 => ?_)
      · replace hres := (if_pos c6).symm.trans hres
        refine lv_aload_n hx hb dX8_copy_43 rfl (lv_at hl 0 rfl) ?_
        refine lv_iconst (v := 1) hx hb dX8_copy_44 (by decide) ?_
        obtain ⟨y7, e7, hres⟩ := bd hres
        refine rw_v S (c_X8_fails l D cy A X A0 (upd v 0 0) r (1 : Int32) y7.1 y7.2.1 y7.2.2 e7) (cwV 1 hts gX8_copy_X8_fails rfl rfl rfl (by decide +kernel) ⟨Nat.le_of_ble_eq_true rfl, Nat.le_of_ble_eq_true rfl⟩) hI hK hN (ci := 7) rfl (atM_0) rfl rfl hl.1 rfl (Nat.le_of_ble_eq_true rfl) dX8_copy_45 ⟨Nat.zero_le _, Nat.zero_le _⟩ (fun H locs hI => ?_)
        obtain ⟨rfl, rfl, rfl⟩ := pr3 hres
        exact W.iret hx hb hr (fun t ht hW => ⟨rfl, ⟨by rw [ht]; exact hI.1, va_K.moved hW.alike hK, hI.2.1, NW.warm hW hN⟩, hI.2.2.F ht⟩) hI.2.2.2.2 dX8_copy_48
      · replace hres := (if_neg c6).symm.trans hres
        refine lv_aload_n hx hb dX8_copy_32 rfl (lv_at hl 0 rfl) ?_
        refine gM_sorts hx hb hts in8 hown hK hI (hts (.fieldLink RX8 9 "TrickHouseModel" "sorts" "[I") (by decide +kernel)) dX8_copy_33 ?_
        refine lv_iload_n hx hb dX8_copy_36 rfl (lv_at hl 3 rfl) ?_
        obtain ⟨g8, hres⟩ := gd hres
        refine th_ild hx hb hK hI 1 0 rfl rfl g8 dX8_copy_37 ?_
        refine lv_bipush (v := (-9)) hx hb dX8_copy_38 (by decide) ?_
        refine lv_icmp_ne (tgt := 49) hx hb dX8_copy_40 (by decide) (fun c9 => ?_) (fun c9 => ?_)
        · replace hres := (if_neg c9).symm.trans hres
          refine lv_aload_n hx hb dX8_copy_49 rfl (lv_at hl 0 rfl) ?_
          refine gM_sorts hx hb hts in8 hown hK hI (hts (.fieldLink RX8 9 "TrickHouseModel" "sorts" "[I") (by decide +kernel)) dX8_copy_50 ?_
          refine lv_iload_n hx hb dX8_copy_53 rfl (lv_at hl 1 rfl) ?_
          obtain ⟨g10, hres⟩ := gd hres
          refine th_ild hx hb hK hI 1 0 rfl rfl g10 dX8_copy_54 ?_
          refine lv_aload_n hx hb dX8_copy_55 rfl (lv_at hl 0 rfl) ?_
          refine gM_sorts hx hb hts in8 hown hK hI (hts (.fieldLink RX8 9 "TrickHouseModel" "sorts" "[I") (by decide +kernel)) dX8_copy_56 ?_
          refine lv_iload_n hx hb dX8_copy_59 rfl (lv_at hl 3 rfl) ?_
          obtain ⟨g11, hres⟩ := gd hres
          refine th_ild hx hb hK hI 1 0 rfl rfl g11 dX8_copy_60 ?_
          refine lv_icmp_eq (tgt := 70) hx hb dX8_copy_61 (by decide) (fun c12 => ?_) (fun c12 => ?_)
          · replace hres := (if_pos c12).symm.trans hres
            refine lv_iload_n hx hb dX8_copy_70 rfl (lv_at hl 2 rfl) ?_
            refine lv_if_lt (tgt := 109) hx hb dX8_copy_71 (by decide) (fun c13 => ?_) (fun c13 => ?_)
            · replace hres := (if_pos c13).symm.trans hres
              refine lv_iconst (v := 0) hx hb dX8_copy_109 (by decide) ?_
              refine lv_istore (lv' := [(6, .int 0), (0, .ref (A 0)), (1, .int a1), (2, .int a2), (3, .int a3), (4, .int a4), (5, .int a5)]) hx hb dX8_copy_110 hl (by decide) rfl (fun ls hl => ?_)
              refine lv_iload hx hb dX8_copy_112 (lv_at hl 0 rfl) ?_
              refine lv_if_eq (tgt := 144) hx hb dX8_copy_114 (by decide) (fun c14 => ?_) (fun c14 => absurd (by decide) c14)
              refine lv_aload_n hx hb dX8_copy_144 rfl (lv_at hl 1 rfl) ?_
              refine lv_iconst (v := 3) hx hb dX8_copy_145 (by decide) ?_
              obtain ⟨y15, e15, hres⟩ := bd hres
              refine rw_v S (c_X8_fails l D cy A X A0 (upd v 0 0) r (3 : Int32) y15.1 y15.2.1 y15.2.2 e15) (cwV 1 hts gX8_copy_X8_fails rfl rfl rfl (by decide +kernel) ⟨Nat.le_of_ble_eq_true rfl, Nat.le_of_ble_eq_true rfl⟩) hI hK hN (ci := 7) rfl (atM_0) rfl rfl hl.1 rfl (Nat.le_of_ble_eq_true rfl) dX8_copy_146 ⟨Nat.zero_le _, Nat.zero_le _⟩ (fun H locs hI => ?_)
              obtain ⟨rfl, rfl, rfl⟩ := pr3 hres
              exact W.iret hx hb hr (fun t ht hW => ⟨rfl, ⟨by rw [ht]; exact hI.1, va_K.moved hW.alike hK, hI.2.1, NW.warm hW hN⟩, hI.2.2.F ht⟩) hI.2.2.2.2 dX8_copy_149
            · replace hres := (if_neg c13).symm.trans hres
              refine lv_iload hx hb dX8_copy_74 (lv_at hl 4 rfl) ?_
              refine lv_if_lt (tgt := 109) hx hb dX8_copy_76 (by decide) (fun c16 => ?_) (fun c16 => ?_)
              · replace hres := (if_pos c16).symm.trans hres
                refine lv_iconst (v := 0) hx hb dX8_copy_109 (by decide) ?_
                refine lv_istore (lv' := [(6, .int 0), (0, .ref (A 0)), (1, .int a1), (2, .int a2), (3, .int a3), (4, .int a4), (5, .int a5)]) hx hb dX8_copy_110 hl (by decide) rfl (fun ls hl => ?_)
                refine lv_iload hx hb dX8_copy_112 (lv_at hl 0 rfl) ?_
                refine lv_if_eq (tgt := 144) hx hb dX8_copy_114 (by decide) (fun c17 => ?_) (fun c17 => absurd (by decide) c17)
                refine lv_aload_n hx hb dX8_copy_144 rfl (lv_at hl 1 rfl) ?_
                refine lv_iconst (v := 3) hx hb dX8_copy_145 (by decide) ?_
                obtain ⟨y18, e18, hres⟩ := bd hres
                refine rw_v S (c_X8_fails l D cy A X A0 (upd v 0 0) r (3 : Int32) y18.1 y18.2.1 y18.2.2 e18) (cwV 1 hts gX8_copy_X8_fails rfl rfl rfl (by decide +kernel) ⟨Nat.le_of_ble_eq_true rfl, Nat.le_of_ble_eq_true rfl⟩) hI hK hN (ci := 7) rfl (atM_0) rfl rfl hl.1 rfl (Nat.le_of_ble_eq_true rfl) dX8_copy_146 ⟨Nat.zero_le _, Nat.zero_le _⟩ (fun H locs hI => ?_)
                obtain ⟨rfl, rfl, rfl⟩ := pr3 hres
                exact W.iret hx hb hr (fun t ht hW => ⟨rfl, ⟨by rw [ht]; exact hI.1, va_K.moved hW.alike hK, hI.2.1, NW.warm hW hN⟩, hI.2.2.F ht⟩) hI.2.2.2.2 dX8_copy_149
              · replace hres := (if_neg c16).symm.trans hres
                refine lv_iload hx hb dX8_copy_79 (lv_at hl 5 rfl) ?_
                refine lv_if_lt (tgt := 109) hx hb dX8_copy_81 (by decide) (fun c19 => ?_) (fun c19 => ?_)
                · replace hres := (if_pos c19).symm.trans hres
                  refine lv_iconst (v := 0) hx hb dX8_copy_109 (by decide) ?_
                  refine lv_istore (lv' := [(6, .int 0), (0, .ref (A 0)), (1, .int a1), (2, .int a2), (3, .int a3), (4, .int a4), (5, .int a5)]) hx hb dX8_copy_110 hl (by decide) rfl (fun ls hl => ?_)
                  refine lv_iload hx hb dX8_copy_112 (lv_at hl 0 rfl) ?_
                  refine lv_if_eq (tgt := 144) hx hb dX8_copy_114 (by decide) (fun c20 => ?_) (fun c20 => absurd (by decide) c20)
                  refine lv_aload_n hx hb dX8_copy_144 rfl (lv_at hl 1 rfl) ?_
                  refine lv_iconst (v := 3) hx hb dX8_copy_145 (by decide) ?_
                  obtain ⟨y21, e21, hres⟩ := bd hres
                  refine rw_v S (c_X8_fails l D cy A X A0 (upd v 0 0) r (3 : Int32) y21.1 y21.2.1 y21.2.2 e21) (cwV 1 hts gX8_copy_X8_fails rfl rfl rfl (by decide +kernel) ⟨Nat.le_of_ble_eq_true rfl, Nat.le_of_ble_eq_true rfl⟩) hI hK hN (ci := 7) rfl (atM_0) rfl rfl hl.1 rfl (Nat.le_of_ble_eq_true rfl) dX8_copy_146 ⟨Nat.zero_le _, Nat.zero_le _⟩ (fun H locs hI => ?_)
                  obtain ⟨rfl, rfl, rfl⟩ := pr3 hres
                  exact W.iret hx hb hr (fun t ht hW => ⟨rfl, ⟨by rw [ht]; exact hI.1, va_K.moved hW.alike hK, hI.2.1, NW.warm hW hN⟩, hI.2.2.F ht⟩) hI.2.2.2.2 dX8_copy_149
                · replace hres := (if_neg c19).symm.trans hres
                  refine lv_iload_n hx hb dX8_copy_84 rfl (lv_at hl 2 rfl) ?_
                  refine lv_aload_n hx hb dX8_copy_85 rfl (lv_at hl 0 rfl) ?_
                  refine gM_sheetLong hx hb hts in8 hown hK hI (hts (.fieldLink RX8 13 "TrickHouseModel" "sheetLong" "[I") (by decide +kernel)) dX8_copy_86 ?_
                  refine lv_iload_n hx hb dX8_copy_89 rfl (lv_at hl 1 rfl) ?_
                  obtain ⟨g22, hres⟩ := gd hres
                  refine th_ild hx hb hK hI 2 0 rfl rfl g22 dX8_copy_90 ?_
                  refine lv_icmp_gt (tgt := 109) hx hb dX8_copy_91 (by decide) (fun c23 => ?_) (fun c23 => ?_)
                  · replace hres := (if_pos c23).symm.trans hres
                    refine lv_iconst (v := 0) hx hb dX8_copy_109 (by decide) ?_
                    refine lv_istore (lv' := [(6, .int 0), (0, .ref (A 0)), (1, .int a1), (2, .int a2), (3, .int a3), (4, .int a4), (5, .int a5)]) hx hb dX8_copy_110 hl (by decide) rfl (fun ls hl => ?_)
                    refine lv_iload hx hb dX8_copy_112 (lv_at hl 0 rfl) ?_
                    refine lv_if_eq (tgt := 144) hx hb dX8_copy_114 (by decide) (fun c24 => ?_) (fun c24 => absurd (by decide) c24)
                    refine lv_aload_n hx hb dX8_copy_144 rfl (lv_at hl 1 rfl) ?_
                    refine lv_iconst (v := 3) hx hb dX8_copy_145 (by decide) ?_
                    obtain ⟨y25, e25, hres⟩ := bd hres
                    refine rw_v S (c_X8_fails l D cy A X A0 (upd v 0 0) r (3 : Int32) y25.1 y25.2.1 y25.2.2 e25) (cwV 1 hts gX8_copy_X8_fails rfl rfl rfl (by decide +kernel) ⟨Nat.le_of_ble_eq_true rfl, Nat.le_of_ble_eq_true rfl⟩) hI hK hN (ci := 7) rfl (atM_0) rfl rfl hl.1 rfl (Nat.le_of_ble_eq_true rfl) dX8_copy_146 ⟨Nat.zero_le _, Nat.zero_le _⟩ (fun H locs hI => ?_)
                    obtain ⟨rfl, rfl, rfl⟩ := pr3 hres
                    exact W.iret hx hb hr (fun t ht hW => ⟨rfl, ⟨by rw [ht]; exact hI.1, va_K.moved hW.alike hK, hI.2.1, NW.warm hW hN⟩, hI.2.2.F ht⟩) hI.2.2.2.2 dX8_copy_149
                  · replace hres := (if_neg c23).symm.trans hres
                    refine lv_iload hx hb dX8_copy_94 (lv_at hl 4 rfl) ?_
                    refine lv_aload_n hx hb dX8_copy_96 rfl (lv_at hl 0 rfl) ?_
                    refine gM_sheetLong hx hb hts in8 hown hK hI (hts (.fieldLink RX8 13 "TrickHouseModel" "sheetLong" "[I") (by decide +kernel)) dX8_copy_97 ?_
                    refine lv_iload_n hx hb dX8_copy_100 rfl (lv_at hl 3 rfl) ?_
                    obtain ⟨g26, hres⟩ := gd hres
                    refine th_ild hx hb hK hI 2 0 rfl rfl g26 dX8_copy_101 ?_
                    refine lv_icmp_gt (tgt := 109) hx hb dX8_copy_102 (by decide) (fun c27 => ?_) (fun c27 => ?_)
                    · replace hres := (if_pos c27).symm.trans hres
                      refine lv_iconst (v := 0) hx hb dX8_copy_109 (by decide) ?_
                      refine lv_istore (lv' := [(6, .int 0), (0, .ref (A 0)), (1, .int a1), (2, .int a2), (3, .int a3), (4, .int a4), (5, .int a5)]) hx hb dX8_copy_110 hl (by decide) rfl (fun ls hl => ?_)
                      refine lv_iload hx hb dX8_copy_112 (lv_at hl 0 rfl) ?_
                      refine lv_if_eq (tgt := 144) hx hb dX8_copy_114 (by decide) (fun c28 => ?_) (fun c28 => absurd (by decide) c28)
                      refine lv_aload_n hx hb dX8_copy_144 rfl (lv_at hl 1 rfl) ?_
                      refine lv_iconst (v := 3) hx hb dX8_copy_145 (by decide) ?_
                      obtain ⟨y29, e29, hres⟩ := bd hres
                      refine rw_v S (c_X8_fails l D cy A X A0 (upd v 0 0) r (3 : Int32) y29.1 y29.2.1 y29.2.2 e29) (cwV 1 hts gX8_copy_X8_fails rfl rfl rfl (by decide +kernel) ⟨Nat.le_of_ble_eq_true rfl, Nat.le_of_ble_eq_true rfl⟩) hI hK hN (ci := 7) rfl (atM_0) rfl rfl hl.1 rfl (Nat.le_of_ble_eq_true rfl) dX8_copy_146 ⟨Nat.zero_le _, Nat.zero_le _⟩ (fun H locs hI => ?_)
                      obtain ⟨rfl, rfl, rfl⟩ := pr3 hres
                      exact W.iret hx hb hr (fun t ht hW => ⟨rfl, ⟨by rw [ht]; exact hI.1, va_K.moved hW.alike hK, hI.2.1, NW.warm hW hN⟩, hI.2.2.F ht⟩) hI.2.2.2.2 dX8_copy_149
                    · replace hres := (if_neg c27).symm.trans hres
                      refine lv_iconst (v := 1) hx hb dX8_copy_105 (by decide) ?_
                      refine lv_goto (tgt := 110) hx hb dX8_copy_106 (by decide) ?_
                      refine lv_istore (lv' := [(6, .int 1), (0, .ref (A 0)), (1, .int a1), (2, .int a2), (3, .int a3), (4, .int a4), (5, .int a5)]) hx hb dX8_copy_110 hl (by decide) rfl (fun ls hl => ?_)
                      refine lv_iload hx hb dX8_copy_112 (lv_at hl 0 rfl) ?_
                      refine lv_if_eq (tgt := 144) hx hb dX8_copy_114 (by decide) (fun c30 => absurd c30 (by decide)) (fun c30 => ?_)
                      refine lv_iload hx hb dX8_copy_117 (lv_at hl 6 rfl) ?_
                      refine lv_aload_n hx hb dX8_copy_119 rfl (lv_at hl 1 rfl) ?_
                      refine gM_sheetLong hx hb hts in8 hown hK hI (hts (.fieldLink RX8 13 "TrickHouseModel" "sheetLong" "[I") (by decide +kernel)) dX8_copy_120 ?_
                      refine lv_iload_n hx hb dX8_copy_123 rfl (lv_at hl 2 rfl) ?_
                      obtain ⟨g31, hres⟩ := gd hres
                      refine th_ild hx hb hK hI 2 0 rfl rfl g31 dX8_copy_124 ?_
                      refine lv_iload_n hx hb dX8_copy_125 rfl (lv_at hl 3 rfl) ?_
                      refine lv_isub hx hb dX8_copy_126 ?_
                      refine lv_icmp_gt (tgt := 144) hx hb dX8_copy_127 (by decide) (fun c32 => ?_) (fun c32 => ?_)
                      · replace hres := (if_pos c32).symm.trans hres
                        refine lv_aload_n hx hb dX8_copy_144 rfl (lv_at hl 1 rfl) ?_
                        refine lv_iconst (v := 3) hx hb dX8_copy_145 (by decide) ?_
                        obtain ⟨y33, e33, hres⟩ := bd hres
                        refine rw_v S (c_X8_fails l D cy A X A0 (upd v 0 0) r (3 : Int32) y33.1 y33.2.1 y33.2.2 e33) (cwV 1 hts gX8_copy_X8_fails rfl rfl rfl (by decide +kernel) ⟨Nat.le_of_ble_eq_true rfl, Nat.le_of_ble_eq_true rfl⟩) hI hK hN (ci := 7) rfl (atM_0) rfl rfl hl.1 rfl (Nat.le_of_ble_eq_true rfl) dX8_copy_146 ⟨Nat.zero_le _, Nat.zero_le _⟩ (fun H locs hI => ?_)
                        obtain ⟨rfl, rfl, rfl⟩ := pr3 hres
                        exact W.iret hx hb hr (fun t ht hW => ⟨rfl, ⟨by rw [ht]; exact hI.1, va_K.moved hW.alike hK, hI.2.1, NW.warm hW hN⟩, hI.2.2.F ht⟩) hI.2.2.2.2 dX8_copy_149
                      · replace hres := (if_neg c32).symm.trans hres
                        refine lv_iload hx hb dX8_copy_130 (lv_at hl 6 rfl) ?_
                        refine lv_aload_n hx hb dX8_copy_132 rfl (lv_at hl 1 rfl) ?_
                        refine gM_sheetLong hx hb hts in8 hown hK hI (hts (.fieldLink RX8 13 "TrickHouseModel" "sheetLong" "[I") (by decide +kernel)) dX8_copy_133 ?_
                        refine lv_iload_n hx hb dX8_copy_136 rfl (lv_at hl 4 rfl) ?_
                        obtain ⟨g34, hres⟩ := gd hres
                        refine th_ild hx hb hK hI 2 0 rfl rfl g34 dX8_copy_137 ?_
                        refine lv_iload hx hb dX8_copy_138 (lv_at hl 5 rfl) ?_
                        refine lv_isub hx hb dX8_copy_140 ?_
                        refine lv_icmp_le (tgt := 150) hx hb dX8_copy_141 (by decide) (fun c35 => ?_) (fun c35 => ?_)
                        · replace hres := (if_pos c35).symm.trans hres
                          refine lv_iload_n hx hb dX8_copy_150 rfl (lv_at hl 3 rfl) ?_
                          refine lv_iload hx hb dX8_copy_151 (lv_at hl 5 rfl) ?_
                          refine lv_icmp_ge (tgt := 160) hx hb dX8_copy_153 (by decide) (fun c36 => ?_) (fun c36 => ?_)
                          · replace hres := (if_pos c36).symm.trans hres
                            refine lv_iconst (v := 0) hx hb dX8_copy_160 (by decide) ?_
                            refine lv_istore (lv' := [(7, .int 0), (6, .int 1), (0, .ref (A 0)), (1, .int a1), (2, .int a2), (3, .int a3), (4, .int a4), (5, .int a5)]) hx hb dX8_copy_161 hl (by decide) rfl (fun ls hl => ?_)
                            refine lv_iconst (v := 0) hx hb dX8_copy_163 (by decide) ?_
                            refine lv_istore (lv' := [(8, .int 0), (7, .int 0), (6, .int 1), (0, .ref (A 0)), (1, .int a1), (2, .int a2), (3, .int a3), (4, .int a4), (5, .int a5)]) hx hb dX8_copy_164 hl (by decide) rfl (fun ls hl => ?_)
                            have w166 : ∀ (n166 : Nat) (x7 : Int32) (x8 : Int32) (v : (Nat → Int32)) (r : (Nat → Nat → Int32)), ∀ (H : Heap) (locs : List Loc), IW D (pcM cy A v r ++ X) A0 s.heap H locs → f_X8_copy_166 a1 a2 a3 a4 a5 n166 x7 x8 v r = some (res, (v2, r2)) → ∀ ls : Array Slot, lv_has ls 10 [(7, .int x7), (8, .int x8), (0, .ref (A 0)), (1, .int a1), (2, .int a2), (3, .int a3), (4, .int a4), (5, .int a5)] → W p l e (headSpec wsX8_copy rm_X8_copy).room s m args below meth c H locs 0 0 (MQ below (QW (some (.int res)) (GW D (tyM cy) (pcM cy A v2 r2 ++ X) A0) A0) args s 0 0 A0) (F0 m 166 ls []) := by
                              intro n166
                              induction n166 with
                              | zero =>
                                intro x7 x8 v r H locs hI hres
                                have hres : (none : Option (Int32 × ST)) = some (res, (v2, r2)) := hres
                                cases hres
                              | succ n166 ih166 =>
                                intro x7 x8 v r H locs hI hres ls hl
                                replace hres := (f_X8_copy_166_s a1 a2 a3 a4 a5 n166 x7 x8 v r).symm.trans hres
                                refine lv_iload hx hb dX8_copy_166 (lv_at hl 1 rfl) ?_
                                refine lv_iload hx hb dX8_copy_168 (lv_at hl 7 rfl) ?_
                                refine lv_icmp_ge (tgt := 227) hx hb dX8_copy_170 (by decide) (fun c37 => ?_) (fun c37 => ?_)
                                · replace hres := (if_pos c37).symm.trans hres
                                  refine lv_iload hx hb dX8_copy_227 (lv_at hl 7 rfl) ?_
                                  obtain ⟨rfl, rfl, rfl⟩ := pr3 hres
                                  exact W.iret hx hb hr (fun t ht hW => ⟨rfl, ⟨by rw [ht]; exact hI.1, va_K.moved hW.alike hK, hI.2.1, NW.warm hW hN⟩, hI.2.2.F ht⟩) hI.2.2.2.2 dX8_copy_229
                                · replace hres := (if_neg c37).symm.trans hres
                                  refine lv_iload hx hb dX8_copy_173 (lv_at hl 0 rfl) ?_
                                  refine lv_if_eq (tgt := 188) hx hb dX8_copy_175 (by decide) (fun c38 => ?_) (fun c38 => ?_)
                                  · replace hres := (if_pos c38).symm.trans hres
                                    refine lv_iload hx hb dX8_copy_188 (lv_at hl 1 rfl) ?_
                                    refine lv_istore (lv' := [(9, .int x8), (7, .int x7), (8, .int x8), (0, .ref (A 0)), (1, .int a1), (2, .int a2), (3, .int a3), (4, .int a4), (5, .int a5)]) hx hb dX8_copy_190 hl (by decide) rfl (fun ls hl => ?_)
                                    refine lv_aload_n hx hb dX8_copy_192 rfl (lv_at hl 3 rfl) ?_
                                    refine gM_cells hx hb hts in8 hown hK hI (hts (.fieldLink RX8 16 "TrickHouseModel" "cells" "[I") (by decide +kernel)) dX8_copy_193 ?_
                                    refine lv_bipush (v := 60) hx hb dX8_copy_196 (by decide) ?_
                                    refine lv_iload_n hx hb dX8_copy_198 rfl (lv_at hl 6 rfl) ?_
                                    refine lv_imul hx hb dX8_copy_199 ?_
                                    refine lv_iload hx hb dX8_copy_200 (lv_at hl 7 rfl) ?_
                                    refine lv_iadd hx hb dX8_copy_202 ?_
                                    refine lv_iload hx hb dX8_copy_203 (lv_at hl 0 rfl) ?_
                                    refine lv_iadd hx hb dX8_copy_205 ?_
                                    refine lv_aload_n hx hb dX8_copy_206 rfl (lv_at hl 3 rfl) ?_
                                    refine gM_cells hx hb hts in8 hown hK hI (hts (.fieldLink RX8 16 "TrickHouseModel" "cells" "[I") (by decide +kernel)) dX8_copy_207 ?_
                                    refine lv_bipush (v := 60) hx hb dX8_copy_210 (by decide) ?_
                                    refine lv_iload_n hx hb dX8_copy_212 rfl (lv_at hl 4 rfl) ?_
                                    refine lv_imul hx hb dX8_copy_213 ?_
                                    refine lv_iload_n hx hb dX8_copy_214 rfl (lv_at hl 5 rfl) ?_
                                    refine lv_iadd hx hb dX8_copy_215 ?_
                                    refine lv_iload hx hb dX8_copy_216 (lv_at hl 0 rfl) ?_
                                    refine lv_iadd hx hb dX8_copy_218 ?_
                                    obtain ⟨g39, hres⟩ := gd hres
                                    refine th_ild hx hb hK hI 3 0 rfl rfl g39 dX8_copy_219 ?_
                                    obtain ⟨g40, hres⟩ := gd hres
                                    refine th_ist hx hb hK hI 3 0 rfl rfl g40 stM_r3 dX8_copy_220 (fun H locs hI => ?_)
                                    refine lv_iinc (v := (x8 + 1)) (lv' := [(8, .int (x8 + 1)), (9, .int x8), (7, .int x7), (0, .ref (A 0)), (1, .int a1), (2, .int a2), (3, .int a3), (4, .int a4), (5, .int a5)]) hx hb dX8_copy_221 hl (k := 2) rfl rfl (by decide) rfl (fun ls hl => ?_)
                                    refine lv_goto (tgt := 166) hx hb dX8_copy_224 (by decide) ?_
                                    exact ih166 x7 (x8 + 1) v (va_up r 2 (upd (r 2) (((60 * a3) + a4) + x8).toNatClampNeg (r 2 (((60 * a1) + a2) + x8).toNatClampNeg))) _ _ hI hres ls (lv_sub hl [2, 0, 3, 4, 5, 6, 7, 8] rfl)
                                  · replace hres := (if_neg c38).symm.trans hres
                                    refine lv_iload hx hb dX8_copy_178 (lv_at hl 7 rfl) ?_
                                    refine lv_iconst (v := 1) hx hb dX8_copy_180 (by decide) ?_
                                    refine lv_isub hx hb dX8_copy_181 ?_
                                    refine lv_iload hx hb dX8_copy_182 (lv_at hl 1 rfl) ?_
                                    refine lv_isub hx hb dX8_copy_184 ?_
                                    refine lv_goto (tgt := 190) hx hb dX8_copy_185 (by decide) ?_
                                    refine lv_istore (lv' := [(9, .int ((a5 - 1) - x8)), (7, .int x7), (8, .int x8), (0, .ref (A 0)), (1, .int a1), (2, .int a2), (3, .int a3), (4, .int a4), (5, .int a5)]) hx hb dX8_copy_190 hl (by decide) rfl (fun ls hl => ?_)
                                    refine lv_aload_n hx hb dX8_copy_192 rfl (lv_at hl 3 rfl) ?_
                                    refine gM_cells hx hb hts in8 hown hK hI (hts (.fieldLink RX8 16 "TrickHouseModel" "cells" "[I") (by decide +kernel)) dX8_copy_193 ?_
                                    refine lv_bipush (v := 60) hx hb dX8_copy_196 (by decide) ?_
                                    refine lv_iload_n hx hb dX8_copy_198 rfl (lv_at hl 6 rfl) ?_
                                    refine lv_imul hx hb dX8_copy_199 ?_
                                    refine lv_iload hx hb dX8_copy_200 (lv_at hl 7 rfl) ?_
                                    refine lv_iadd hx hb dX8_copy_202 ?_
                                    refine lv_iload hx hb dX8_copy_203 (lv_at hl 0 rfl) ?_
                                    refine lv_iadd hx hb dX8_copy_205 ?_
                                    refine lv_aload_n hx hb dX8_copy_206 rfl (lv_at hl 3 rfl) ?_
                                    refine gM_cells hx hb hts in8 hown hK hI (hts (.fieldLink RX8 16 "TrickHouseModel" "cells" "[I") (by decide +kernel)) dX8_copy_207 ?_
                                    refine lv_bipush (v := 60) hx hb dX8_copy_210 (by decide) ?_
                                    refine lv_iload_n hx hb dX8_copy_212 rfl (lv_at hl 4 rfl) ?_
                                    refine lv_imul hx hb dX8_copy_213 ?_
                                    refine lv_iload_n hx hb dX8_copy_214 rfl (lv_at hl 5 rfl) ?_
                                    refine lv_iadd hx hb dX8_copy_215 ?_
                                    refine lv_iload hx hb dX8_copy_216 (lv_at hl 0 rfl) ?_
                                    refine lv_iadd hx hb dX8_copy_218 ?_
                                    obtain ⟨g41, hres⟩ := gd hres
                                    refine th_ild hx hb hK hI 3 0 rfl rfl g41 dX8_copy_219 ?_
                                    obtain ⟨g42, hres⟩ := gd hres
                                    refine th_ist hx hb hK hI 3 0 rfl rfl g42 stM_r3 dX8_copy_220 (fun H locs hI => ?_)
                                    refine lv_iinc (v := (x8 + 1)) (lv' := [(8, .int (x8 + 1)), (9, .int ((a5 - 1) - x8)), (7, .int x7), (0, .ref (A 0)), (1, .int a1), (2, .int a2), (3, .int a3), (4, .int a4), (5, .int a5)]) hx hb dX8_copy_221 hl (k := 2) rfl rfl (by decide) rfl (fun ls hl => ?_)
                                    refine lv_goto (tgt := 166) hx hb dX8_copy_224 (by decide) ?_
                                    exact ih166 x7 (x8 + 1) v (va_up r 2 (upd (r 2) (((60 * a3) + a4) + ((a5 - 1) - x8)).toNatClampNeg (r 2 (((60 * a1) + a2) + ((a5 - 1) - x8)).toNatClampNeg))) _ _ hI hres ls (lv_sub hl [2, 0, 3, 4, 5, 6, 7, 8] rfl)
                            exact w166 80 (0 : Int32) (0 : Int32) (upd v 0 0) r _ _ hI hres ls (lv_sub hl [1, 0, 3, 4, 5, 6, 7, 8] rfl)
                          · replace hres := (if_neg c36).symm.trans hres
                            refine lv_iconst (v := 1) hx hb dX8_copy_156 (by decide) ?_
                            refine lv_goto (tgt := 161) hx hb dX8_copy_157 (by decide) ?_
                            refine lv_istore (lv' := [(7, .int 1), (6, .int 1), (0, .ref (A 0)), (1, .int a1), (2, .int a2), (3, .int a3), (4, .int a4), (5, .int a5)]) hx hb dX8_copy_161 hl (by decide) rfl (fun ls hl => ?_)
                            refine lv_iconst (v := 0) hx hb dX8_copy_163 (by decide) ?_
                            refine lv_istore (lv' := [(8, .int 0), (7, .int 1), (6, .int 1), (0, .ref (A 0)), (1, .int a1), (2, .int a2), (3, .int a3), (4, .int a4), (5, .int a5)]) hx hb dX8_copy_164 hl (by decide) rfl (fun ls hl => ?_)
                            have w166 : ∀ (n166 : Nat) (x7 : Int32) (x8 : Int32) (v : (Nat → Int32)) (r : (Nat → Nat → Int32)), ∀ (H : Heap) (locs : List Loc), IW D (pcM cy A v r ++ X) A0 s.heap H locs → f_X8_copy_166 a1 a2 a3 a4 a5 n166 x7 x8 v r = some (res, (v2, r2)) → ∀ ls : Array Slot, lv_has ls 10 [(7, .int x7), (8, .int x8), (0, .ref (A 0)), (1, .int a1), (2, .int a2), (3, .int a3), (4, .int a4), (5, .int a5)] → W p l e (headSpec wsX8_copy rm_X8_copy).room s m args below meth c H locs 0 0 (MQ below (QW (some (.int res)) (GW D (tyM cy) (pcM cy A v2 r2 ++ X) A0) A0) args s 0 0 A0) (F0 m 166 ls []) := by
                              intro n166
                              induction n166 with
                              | zero =>
                                intro x7 x8 v r H locs hI hres
                                have hres : (none : Option (Int32 × ST)) = some (res, (v2, r2)) := hres
                                cases hres
                              | succ n166 ih166 =>
                                intro x7 x8 v r H locs hI hres ls hl
                                replace hres := (f_X8_copy_166_s a1 a2 a3 a4 a5 n166 x7 x8 v r).symm.trans hres
                                refine lv_iload hx hb dX8_copy_166 (lv_at hl 1 rfl) ?_
                                refine lv_iload hx hb dX8_copy_168 (lv_at hl 7 rfl) ?_
                                refine lv_icmp_ge (tgt := 227) hx hb dX8_copy_170 (by decide) (fun c43 => ?_) (fun c43 => ?_)
                                · replace hres := (if_pos c43).symm.trans hres
                                  refine lv_iload hx hb dX8_copy_227 (lv_at hl 7 rfl) ?_
                                  obtain ⟨rfl, rfl, rfl⟩ := pr3 hres
                                  exact W.iret hx hb hr (fun t ht hW => ⟨rfl, ⟨by rw [ht]; exact hI.1, va_K.moved hW.alike hK, hI.2.1, NW.warm hW hN⟩, hI.2.2.F ht⟩) hI.2.2.2.2 dX8_copy_229
                                · replace hres := (if_neg c43).symm.trans hres
                                  refine lv_iload hx hb dX8_copy_173 (lv_at hl 0 rfl) ?_
                                  refine lv_if_eq (tgt := 188) hx hb dX8_copy_175 (by decide) (fun c44 => ?_) (fun c44 => ?_)
                                  · replace hres := (if_pos c44).symm.trans hres
                                    refine lv_iload hx hb dX8_copy_188 (lv_at hl 1 rfl) ?_
                                    refine lv_istore (lv' := [(9, .int x8), (7, .int x7), (8, .int x8), (0, .ref (A 0)), (1, .int a1), (2, .int a2), (3, .int a3), (4, .int a4), (5, .int a5)]) hx hb dX8_copy_190 hl (by decide) rfl (fun ls hl => ?_)
                                    refine lv_aload_n hx hb dX8_copy_192 rfl (lv_at hl 3 rfl) ?_
                                    refine gM_cells hx hb hts in8 hown hK hI (hts (.fieldLink RX8 16 "TrickHouseModel" "cells" "[I") (by decide +kernel)) dX8_copy_193 ?_
                                    refine lv_bipush (v := 60) hx hb dX8_copy_196 (by decide) ?_
                                    refine lv_iload_n hx hb dX8_copy_198 rfl (lv_at hl 6 rfl) ?_
                                    refine lv_imul hx hb dX8_copy_199 ?_
                                    refine lv_iload hx hb dX8_copy_200 (lv_at hl 7 rfl) ?_
                                    refine lv_iadd hx hb dX8_copy_202 ?_
                                    refine lv_iload hx hb dX8_copy_203 (lv_at hl 0 rfl) ?_
                                    refine lv_iadd hx hb dX8_copy_205 ?_
                                    refine lv_aload_n hx hb dX8_copy_206 rfl (lv_at hl 3 rfl) ?_
                                    refine gM_cells hx hb hts in8 hown hK hI (hts (.fieldLink RX8 16 "TrickHouseModel" "cells" "[I") (by decide +kernel)) dX8_copy_207 ?_
                                    refine lv_bipush (v := 60) hx hb dX8_copy_210 (by decide) ?_
                                    refine lv_iload_n hx hb dX8_copy_212 rfl (lv_at hl 4 rfl) ?_
                                    refine lv_imul hx hb dX8_copy_213 ?_
                                    refine lv_iload_n hx hb dX8_copy_214 rfl (lv_at hl 5 rfl) ?_
                                    refine lv_iadd hx hb dX8_copy_215 ?_
                                    refine lv_iload hx hb dX8_copy_216 (lv_at hl 0 rfl) ?_
                                    refine lv_iadd hx hb dX8_copy_218 ?_
                                    obtain ⟨g45, hres⟩ := gd hres
                                    refine th_ild hx hb hK hI 3 0 rfl rfl g45 dX8_copy_219 ?_
                                    obtain ⟨g46, hres⟩ := gd hres
                                    refine th_ist hx hb hK hI 3 0 rfl rfl g46 stM_r3 dX8_copy_220 (fun H locs hI => ?_)
                                    refine lv_iinc (v := (x8 + 1)) (lv' := [(8, .int (x8 + 1)), (9, .int x8), (7, .int x7), (0, .ref (A 0)), (1, .int a1), (2, .int a2), (3, .int a3), (4, .int a4), (5, .int a5)]) hx hb dX8_copy_221 hl (k := 2) rfl rfl (by decide) rfl (fun ls hl => ?_)
                                    refine lv_goto (tgt := 166) hx hb dX8_copy_224 (by decide) ?_
                                    exact ih166 x7 (x8 + 1) v (va_up r 2 (upd (r 2) (((60 * a3) + a4) + x8).toNatClampNeg (r 2 (((60 * a1) + a2) + x8).toNatClampNeg))) _ _ hI hres ls (lv_sub hl [2, 0, 3, 4, 5, 6, 7, 8] rfl)
                                  · replace hres := (if_neg c44).symm.trans hres
                                    refine lv_iload hx hb dX8_copy_178 (lv_at hl 7 rfl) ?_
                                    refine lv_iconst (v := 1) hx hb dX8_copy_180 (by decide) ?_
                                    refine lv_isub hx hb dX8_copy_181 ?_
                                    refine lv_iload hx hb dX8_copy_182 (lv_at hl 1 rfl) ?_
                                    refine lv_isub hx hb dX8_copy_184 ?_
                                    refine lv_goto (tgt := 190) hx hb dX8_copy_185 (by decide) ?_
                                    refine lv_istore (lv' := [(9, .int ((a5 - 1) - x8)), (7, .int x7), (8, .int x8), (0, .ref (A 0)), (1, .int a1), (2, .int a2), (3, .int a3), (4, .int a4), (5, .int a5)]) hx hb dX8_copy_190 hl (by decide) rfl (fun ls hl => ?_)
                                    refine lv_aload_n hx hb dX8_copy_192 rfl (lv_at hl 3 rfl) ?_
                                    refine gM_cells hx hb hts in8 hown hK hI (hts (.fieldLink RX8 16 "TrickHouseModel" "cells" "[I") (by decide +kernel)) dX8_copy_193 ?_
                                    refine lv_bipush (v := 60) hx hb dX8_copy_196 (by decide) ?_
                                    refine lv_iload_n hx hb dX8_copy_198 rfl (lv_at hl 6 rfl) ?_
                                    refine lv_imul hx hb dX8_copy_199 ?_
                                    refine lv_iload hx hb dX8_copy_200 (lv_at hl 7 rfl) ?_
                                    refine lv_iadd hx hb dX8_copy_202 ?_
                                    refine lv_iload hx hb dX8_copy_203 (lv_at hl 0 rfl) ?_
                                    refine lv_iadd hx hb dX8_copy_205 ?_
                                    refine lv_aload_n hx hb dX8_copy_206 rfl (lv_at hl 3 rfl) ?_
                                    refine gM_cells hx hb hts in8 hown hK hI (hts (.fieldLink RX8 16 "TrickHouseModel" "cells" "[I") (by decide +kernel)) dX8_copy_207 ?_
                                    refine lv_bipush (v := 60) hx hb dX8_copy_210 (by decide) ?_
                                    refine lv_iload_n hx hb dX8_copy_212 rfl (lv_at hl 4 rfl) ?_
                                    refine lv_imul hx hb dX8_copy_213 ?_
                                    refine lv_iload_n hx hb dX8_copy_214 rfl (lv_at hl 5 rfl) ?_
                                    refine lv_iadd hx hb dX8_copy_215 ?_
                                    refine lv_iload hx hb dX8_copy_216 (lv_at hl 0 rfl) ?_
                                    refine lv_iadd hx hb dX8_copy_218 ?_
                                    obtain ⟨g47, hres⟩ := gd hres
                                    refine th_ild hx hb hK hI 3 0 rfl rfl g47 dX8_copy_219 ?_
                                    obtain ⟨g48, hres⟩ := gd hres
                                    refine th_ist hx hb hK hI 3 0 rfl rfl g48 stM_r3 dX8_copy_220 (fun H locs hI => ?_)
                                    refine lv_iinc (v := (x8 + 1)) (lv' := [(8, .int (x8 + 1)), (9, .int ((a5 - 1) - x8)), (7, .int x7), (0, .ref (A 0)), (1, .int a1), (2, .int a2), (3, .int a3), (4, .int a4), (5, .int a5)]) hx hb dX8_copy_221 hl (k := 2) rfl rfl (by decide) rfl (fun ls hl => ?_)
                                    refine lv_goto (tgt := 166) hx hb dX8_copy_224 (by decide) ?_
                                    exact ih166 x7 (x8 + 1) v (va_up r 2 (upd (r 2) (((60 * a3) + a4) + ((a5 - 1) - x8)).toNatClampNeg (r 2 (((60 * a1) + a2) + ((a5 - 1) - x8)).toNatClampNeg))) _ _ hI hres ls (lv_sub hl [2, 0, 3, 4, 5, 6, 7, 8] rfl)
                            exact w166 80 (1 : Int32) (0 : Int32) (upd v 0 0) r _ _ hI hres ls (lv_sub hl [1, 0, 3, 4, 5, 6, 7, 8] rfl)
                        · replace hres := (if_neg c35).symm.trans hres
                          refine lv_aload_n hx hb dX8_copy_144 rfl (lv_at hl 1 rfl) ?_
                          refine lv_iconst (v := 3) hx hb dX8_copy_145 (by decide) ?_
                          obtain ⟨y49, e49, hres⟩ := bd hres
                          refine rw_v S (c_X8_fails l D cy A X A0 (upd v 0 0) r (3 : Int32) y49.1 y49.2.1 y49.2.2 e49) (cwV 1 hts gX8_copy_X8_fails rfl rfl rfl (by decide +kernel) ⟨Nat.le_of_ble_eq_true rfl, Nat.le_of_ble_eq_true rfl⟩) hI hK hN (ci := 7) rfl (atM_0) rfl rfl hl.1 rfl (Nat.le_of_ble_eq_true rfl) dX8_copy_146 ⟨Nat.zero_le _, Nat.zero_le _⟩ (fun H locs hI => ?_)
                          obtain ⟨rfl, rfl, rfl⟩ := pr3 hres
                          exact W.iret hx hb hr (fun t ht hW => ⟨rfl, ⟨by rw [ht]; exact hI.1, va_K.moved hW.alike hK, hI.2.1, NW.warm hW hN⟩, hI.2.2.F ht⟩) hI.2.2.2.2 dX8_copy_149
          · replace hres := (if_neg c12).symm.trans hres
            refine lv_aload_n hx hb dX8_copy_64 rfl (lv_at hl 0 rfl) ?_
            refine lv_iconst (v := 2) hx hb dX8_copy_65 (by decide) ?_
            obtain ⟨y50, e50, hres⟩ := bd hres
            refine rw_v S (c_X8_fails l D cy A X A0 (upd v 0 0) r (2 : Int32) y50.1 y50.2.1 y50.2.2 e50) (cwV 1 hts gX8_copy_X8_fails rfl rfl rfl (by decide +kernel) ⟨Nat.le_of_ble_eq_true rfl, Nat.le_of_ble_eq_true rfl⟩) hI hK hN (ci := 7) rfl (atM_0) rfl rfl hl.1 rfl (Nat.le_of_ble_eq_true rfl) dX8_copy_66 ⟨Nat.zero_le _, Nat.zero_le _⟩ (fun H locs hI => ?_)
            obtain ⟨rfl, rfl, rfl⟩ := pr3 hres
            exact W.iret hx hb hr (fun t ht hW => ⟨rfl, ⟨by rw [ht]; exact hI.1, va_K.moved hW.alike hK, hI.2.1, NW.warm hW hN⟩, hI.2.2.F ht⟩) hI.2.2.2.2 dX8_copy_69
        · replace hres := (if_pos c9).symm.trans hres
          refine lv_aload_n hx hb dX8_copy_43 rfl (lv_at hl 0 rfl) ?_
          refine lv_iconst (v := 1) hx hb dX8_copy_44 (by decide) ?_
          obtain ⟨y51, e51, hres⟩ := bd hres
          refine rw_v S (c_X8_fails l D cy A X A0 (upd v 0 0) r (1 : Int32) y51.1 y51.2.1 y51.2.2 e51) (cwV 1 hts gX8_copy_X8_fails rfl rfl rfl (by decide +kernel) ⟨Nat.le_of_ble_eq_true rfl, Nat.le_of_ble_eq_true rfl⟩) hI hK hN (ci := 7) rfl (atM_0) rfl rfl hl.1 rfl (Nat.le_of_ble_eq_true rfl) dX8_copy_45 ⟨Nat.zero_le _, Nat.zero_le _⟩ (fun H locs hI => ?_)
          obtain ⟨rfl, rfl, rfl⟩ := pr3 hres
          exact W.iret hx hb hr (fun t ht hW => ⟨rfl, ⟨by rw [ht]; exact hI.1, va_K.moved hW.alike hK, hI.2.1, NW.warm hW hN⟩, hI.2.2.F ht⟩) hI.2.2.2.2 dX8_copy_48
    · replace hres := (if_neg (bI_f c4)).symm.trans hres
      refine lv_iconst (v := (-1)) hx hb dX8_copy_19 (by decide) ?_
      obtain ⟨rfl, rfl, rfl⟩ := pr3 hres
      exact W.iret hx hb hr (fun t ht hW => ⟨rfl, ⟨by rw [ht]; exact hI.1, va_K.moved hW.alike hK, hI.2.1, NW.warm hW hN⟩, hI.2.2.F ht⟩) hI.2.2.2.2 dX8_copy_20
abbrev rm_X8_begins : Room := { frames := 0, cells := 0, slots := 0, locals := 0 }
def f_X8_begins (v : Nat → Int32) (r : Nat → Nat → Int32) (a1 : Int32) : Option ST := some (((upd v 1 ((31 * (v 1)) + a1)), r))
set_option maxHeartbeats 4000000 in
set_option maxRecDepth 100000 in
theorem c_X8_begins (l : Launch) (D : va_G) (cy : Nat → ClassId) (A : Nat → Nat) (X : va_W) (A0 : Nat → Prop) (v : Nat → Int32) (r : Nat → Nat → Int32) (a1 : Int32) (v2 : Nat → Int32) (r2 : Nat → Nat → Int32) (hres : f_X8_begins v r a1 = some (v2, r2)) : Met l yX8_begins wsX8_begins rm_X8_begins (va_Pc [.ref (A 0), .int a1] (GW D (tyM cy) (pcM cy A v r ++ X) A0)) (QW none (GW D (tyM cy) (pcM cy A v2 r2 ++ X) A0) A0) 0 0 A0 := by
  refine Met.ofW (cc := cX8_begins) (maxL := 2) (ret := none) (by decide) rfl ?_
  intro p e s m args below meth c s₁ B hml hv
  obtain ⟨hargs, hP, hK, hD0, hN⟩ := hv
  have hx := B.exec
  have hb := B.bytes
  have hr := B.returns
  have hts := atoms_spec (ws := wsX8_begins) B.pre
  have hown : s.vm.findClass RX8 = some m.cls := findClass_of_methodNamed B.named
  have hlocks := B.notSynchronized
  have hI : IW D (pcM cy A v r ++ X) A0 s.heap s.heap [] := ⟨hP, hD0, va_S.rf⟩
  have in8 : ∀ w ∈ wsX80, w ∈ wsX8_begins := fun _ h => List.mem_cons_of_mem _ (List.mem_append_right _ h)
  have hl := lv_entry ([.ref (A 0), .int a1]) (n := 2) (Nat.le_of_ble_eq_true rfl)
  have hE : entryFrame m args 2 = F0 m 0 ((lg_sl ([.ref (A 0), .int a1]) ++ List.replicate (2 - (lg_sl ([.ref (A 0), .int a1])).length) Slot.unset).toArray) [] := by rw [hargs]; exact lg_entry_eq m [.ref (A 0), .int a1] 2
  rw [hE]
  generalize (lg_sl ([.ref (A 0), .int a1]) ++ List.replicate (2 - (lg_sl ([.ref (A 0), .int a1])).length) Slot.unset).toArray = ls at hl ⊢
  have hl : lv_has ls 2 [(0, .ref (A 0)), (1, .int a1)] := hl
  unfold f_X8_begins at hres
  refine lv_aload_n hx hb dX8_begins_0 rfl (lv_at hl 0 rfl) ?_
  refine lv_bipush (v := 31) hx hb dX8_begins_1 (by decide) ?_
  refine lv_aload_n hx hb dX8_begins_3 rfl (lv_at hl 0 rfl) ?_
  refine gM_trace hx hb hts in8 hown hK hI (hts (.fieldLink RX8 210 "TrickHouseModel" "trace" "I") (by decide +kernel)) dX8_begins_4 ?_
  refine lv_imul hx hb dX8_begins_7 ?_
  refine lv_iload_n hx hb dX8_begins_8 rfl (lv_at hl 1 rfl) ?_
  refine lv_iadd hx hb dX8_begins_9 ?_
  refine pM_trace hx hb hts in8 hown hK hI (hts (.fieldLink RX8 210 "TrickHouseModel" "trace" "I") (by decide +kernel)) dX8_begins_10 (fun H locs hI => ?_)
  obtain ⟨rfl, rfl⟩ := pr2 hres
  exact W.vret hx hb hr (fun t ht hW => ⟨rfl, ⟨by rw [ht]; exact hI.1, va_K.moved hW.alike hK, hI.2.1, NW.warm hW hN⟩, hI.2.2.F ht⟩) hI.2.2.2.2 dX8_begins_13
abbrev rm_X8_tell : Room := { frames := 1, cells := 0, slots := 0, locals := 21 }
def f_X8_tell (v : Nat → Int32) (r : Nat → Nat → Int32) (a1 : Int32) : Option (Int32 × ST) := (if (f_X8_isArticle v r a1) = true then if inR a1 6 = true then if inR a1 6 = true then (if (r 4 a1.toNatClampNeg) = 1 then (f_X8_begins v r (2 : Int32)).bind (fun y6 => (f_X8_begins y6.1 y6.2 (1 : Int32)).bind (fun y7 => some (((r 6 a1.toNatClampNeg) + 100), (y7.1, y7.2)))) else (if (r 4 a1.toNatClampNeg) = 2 then (f_X8_begins v r (3 : Int32)).bind (fun y9 => (f_X8_begins y9.1 y9.2 (2 : Int32)).bind (fun y10 => (f_X8_begins y10.1 y10.2 (1 : Int32)).bind (fun y11 => (f_X8_begins y11.1 y11.2 (1 : Int32)).bind (fun y12 => some (((2 * (r 6 a1.toNatClampNeg)) + 100), (y12.1, y12.2)))))) else (f_X8_begins v r (1 : Int32)).bind (fun y13 => some ((r 6 a1.toNatClampNeg), (y13.1, y13.2))))) else none else none else some ((-1), (v, r)))
set_option maxHeartbeats 4000000 in
set_option maxRecDepth 100000 in
theorem c_X8_tell (l : Launch) (D : va_G) (cy : Nat → ClassId) (A : Nat → Nat) (X : va_W) (A0 : Nat → Prop) (v : Nat → Int32) (r : Nat → Nat → Int32) (a1 : Int32) (res : Int32) (v2 : Nat → Int32) (r2 : Nat → Nat → Int32) (hres : f_X8_tell v r a1 = some (res, (v2, r2))) : Met l yX8_tell wsX8_tell rm_X8_tell (va_Pc [.ref (A 0), .int a1] (GW D (tyM cy) (pcM cy A v r ++ X) A0)) (QW (some (.int res)) (GW D (tyM cy) (pcM cy A v2 r2 ++ X) A0) A0) 0 0 A0 := by
  refine Met.ofW (cc := cX8_tell) (maxL := 3) (ret := (some .int)) (by decide) rfl ?_
  intro p e s m args below meth c s₁ B hml hv
  obtain ⟨hargs, hP, hK, hD0, hN⟩ := hv
  have hx := B.exec
  have hb := B.bytes
  have hr := B.returns
  have hts := atoms_spec (ws := wsX8_tell) B.pre
  have hown : s.vm.findClass RX8 = some m.cls := findClass_of_methodNamed B.named
  have hlocks := B.notSynchronized
  have hI : IW D (pcM cy A v r ++ X) A0 s.heap s.heap [] := ⟨hP, hD0, va_S.rf⟩
  have S : CallFix p m c cX8_tell 3 s args wsX8_tell RX8 := ⟨hx, hb, hml, hown, hts⟩
  have in8 : ∀ w ∈ wsX80, w ∈ wsX8_tell := fun _ h => List.mem_cons_of_mem _ (List.mem_append_right _ h)
  have hl := lv_entry ([.ref (A 0), .int a1]) (n := 3) (Nat.le_of_ble_eq_true rfl)
  have hE : entryFrame m args 3 = F0 m 0 ((lg_sl ([.ref (A 0), .int a1]) ++ List.replicate (3 - (lg_sl ([.ref (A 0), .int a1])).length) Slot.unset).toArray) [] := by rw [hargs]; exact lg_entry_eq m [.ref (A 0), .int a1] 3
  rw [hE]
  generalize (lg_sl ([.ref (A 0), .int a1]) ++ List.replicate (3 - (lg_sl ([.ref (A 0), .int a1])).length) Slot.unset).toArray = ls at hl ⊢
  have hl : lv_has ls 3 [(0, .ref (A 0)), (1, .int a1)] := hl
  unfold f_X8_tell at hres
  refine lv_aload_n hx hb dX8_tell_0 rfl (lv_at hl 0 rfl) ?_
  refine lv_iload_n hx hb dX8_tell_1 rfl (lv_at hl 1 rfl) ?_
  refine ro_v S (c_X8_isArticle l D cy A X A0 v r a1 _ rfl) (cwV 1 hts gX8_tell_X8_isArticle rfl rfl rfl (by decide +kernel) ⟨Nat.le_of_ble_eq_true rfl, Nat.le_of_ble_eq_true rfl⟩) hI hK hN (ci := 7) rfl (atM_0) rfl rfl hl.1 rfl (Nat.le_of_ble_eq_true rfl) dX8_tell_2 ⟨Nat.zero_le _, Nat.zero_le _⟩ ?_
  refine lv_if_ne (tgt := 10) hx hb dX8_tell_5 (by decide) (fun c2 => ?_) (fun c2 => ?_)
  · replace hres := (if_pos (bI_t c2)).symm.trans hres
    refine lv_aload_n hx hb dX8_tell_10 rfl (lv_at hl 0 rfl) ?_
    refine gM_gaiety hx hb hts in8 hown hK hI (hts (.fieldLink RX8 28 "TrickHouseModel" "gaiety" "[I") (by decide +kernel)) dX8_tell_11 ?_
    refine lv_iload_n hx hb dX8_tell_14 rfl (lv_at hl 1 rfl) ?_
    obtain ⟨g3, hres⟩ := gd hres
    refine th_ild hx hb hK hI 7 0 rfl rfl g3 dX8_tell_15 ?_
    refine lv_istore_n (lv' := [(2, .int (r 6 a1.toNatClampNeg)), (0, .ref (A 0)), (1, .int a1)]) hx hb dX8_tell_16 rfl hl (by decide) rfl (fun ls hl => ?_)
    refine lv_aload_n hx hb dX8_tell_17 rfl (lv_at hl 1 rfl) ?_
    refine gM_kind hx hb hts in8 hown hK hI (hts (.fieldLink RX8 22 "TrickHouseModel" "kind" "[I") (by decide +kernel)) dX8_tell_18 ?_
    refine lv_iload_n hx hb dX8_tell_21 rfl (lv_at hl 2 rfl) ?_
    obtain ⟨g4, hres⟩ := gd hres
    refine th_ild hx hb hK hI 5 0 rfl rfl g4 dX8_tell_22 ?_
    by_cases c5 : (r 4 a1.toNatClampNeg) = 1
    · replace hres := (if_pos c5).symm.trans hres
      refine lv_lookup (off := 25) (tgt := 48) hx hb dX8_tell_23 (by decide) (by rw [c5]; decide) (by decide) ?_
      refine lv_aload_n hx hb dX8_tell_48 rfl (lv_at hl 1 rfl) ?_
      refine lv_iconst (v := 2) hx hb dX8_tell_49 (by decide) ?_
      obtain ⟨y6, e6, hres⟩ := bd hres
      refine rw_v S (c_X8_begins l D cy A X A0 v r (2 : Int32) y6.1 y6.2 e6) (cwV 1 hts gX8_tell_X8_begins rfl rfl rfl (by decide +kernel) ⟨Nat.le_of_ble_eq_true rfl, Nat.le_of_ble_eq_true rfl⟩) hI hK hN (ci := 7) rfl (atM_0) rfl rfl hl.1 rfl (Nat.le_of_ble_eq_true rfl) dX8_tell_50 ⟨Nat.zero_le _, Nat.zero_le _⟩ (fun H locs hI => ?_)
      refine lv_aload_n hx hb dX8_tell_53 rfl (lv_at hl 1 rfl) ?_
      refine lv_iconst (v := 1) hx hb dX8_tell_54 (by decide) ?_
      obtain ⟨y7, e7, hres⟩ := bd hres
      refine rw_v S (c_X8_begins l D cy A X A0 y6.1 y6.2 (1 : Int32) y7.1 y7.2 e7) (cwV 1 hts gX8_tell_X8_begins rfl rfl rfl (by decide +kernel) ⟨Nat.le_of_ble_eq_true rfl, Nat.le_of_ble_eq_true rfl⟩) hI hK hN (ci := 7) rfl (atM_0) rfl rfl hl.1 rfl (Nat.le_of_ble_eq_true rfl) dX8_tell_55 ⟨Nat.zero_le _, Nat.zero_le _⟩ (fun H locs hI => ?_)
      refine lv_iload_n hx hb dX8_tell_58 rfl (lv_at hl 0 rfl) ?_
      refine lv_bipush (v := 100) hx hb dX8_tell_59 (by decide) ?_
      refine lv_iadd hx hb dX8_tell_61 ?_
      obtain ⟨rfl, rfl, rfl⟩ := pr3 hres
      exact W.iret hx hb hr (fun t ht hW => ⟨rfl, ⟨by rw [ht]; exact hI.1, va_K.moved hW.alike hK, hI.2.1, NW.warm hW hN⟩, hI.2.2.F ht⟩) hI.2.2.2.2 dX8_tell_62
    · replace hres := (if_neg c5).symm.trans hres
      by_cases c8 : (r 4 a1.toNatClampNeg) = 2
      · replace hres := (if_pos c8).symm.trans hres
        refine lv_lookup (off := 40) (tgt := 63) hx hb dX8_tell_23 (by decide) (by rw [c8]; decide) (by decide) ?_
        refine lv_aload_n hx hb dX8_tell_63 rfl (lv_at hl 1 rfl) ?_
        refine lv_iconst (v := 3) hx hb dX8_tell_64 (by decide) ?_
        obtain ⟨y9, e9, hres⟩ := bd hres
        refine rw_v S (c_X8_begins l D cy A X A0 v r (3 : Int32) y9.1 y9.2 e9) (cwV 1 hts gX8_tell_X8_begins rfl rfl rfl (by decide +kernel) ⟨Nat.le_of_ble_eq_true rfl, Nat.le_of_ble_eq_true rfl⟩) hI hK hN (ci := 7) rfl (atM_0) rfl rfl hl.1 rfl (Nat.le_of_ble_eq_true rfl) dX8_tell_65 ⟨Nat.zero_le _, Nat.zero_le _⟩ (fun H locs hI => ?_)
        refine lv_aload_n hx hb dX8_tell_68 rfl (lv_at hl 1 rfl) ?_
        refine lv_iconst (v := 2) hx hb dX8_tell_69 (by decide) ?_
        obtain ⟨y10, e10, hres⟩ := bd hres
        refine rw_v S (c_X8_begins l D cy A X A0 y9.1 y9.2 (2 : Int32) y10.1 y10.2 e10) (cwV 1 hts gX8_tell_X8_begins rfl rfl rfl (by decide +kernel) ⟨Nat.le_of_ble_eq_true rfl, Nat.le_of_ble_eq_true rfl⟩) hI hK hN (ci := 7) rfl (atM_0) rfl rfl hl.1 rfl (Nat.le_of_ble_eq_true rfl) dX8_tell_70 ⟨Nat.zero_le _, Nat.zero_le _⟩ (fun H locs hI => ?_)
        refine lv_aload_n hx hb dX8_tell_73 rfl (lv_at hl 1 rfl) ?_
        refine lv_iconst (v := 1) hx hb dX8_tell_74 (by decide) ?_
        obtain ⟨y11, e11, hres⟩ := bd hres
        refine rw_v S (c_X8_begins l D cy A X A0 y10.1 y10.2 (1 : Int32) y11.1 y11.2 e11) (cwV 1 hts gX8_tell_X8_begins rfl rfl rfl (by decide +kernel) ⟨Nat.le_of_ble_eq_true rfl, Nat.le_of_ble_eq_true rfl⟩) hI hK hN (ci := 7) rfl (atM_0) rfl rfl hl.1 rfl (Nat.le_of_ble_eq_true rfl) dX8_tell_75 ⟨Nat.zero_le _, Nat.zero_le _⟩ (fun H locs hI => ?_)
        refine lv_aload_n hx hb dX8_tell_78 rfl (lv_at hl 1 rfl) ?_
        refine lv_iconst (v := 1) hx hb dX8_tell_79 (by decide) ?_
        obtain ⟨y12, e12, hres⟩ := bd hres
        refine rw_v S (c_X8_begins l D cy A X A0 y11.1 y11.2 (1 : Int32) y12.1 y12.2 e12) (cwV 1 hts gX8_tell_X8_begins rfl rfl rfl (by decide +kernel) ⟨Nat.le_of_ble_eq_true rfl, Nat.le_of_ble_eq_true rfl⟩) hI hK hN (ci := 7) rfl (atM_0) rfl rfl hl.1 rfl (Nat.le_of_ble_eq_true rfl) dX8_tell_80 ⟨Nat.zero_le _, Nat.zero_le _⟩ (fun H locs hI => ?_)
        refine lv_iconst (v := 2) hx hb dX8_tell_83 (by decide) ?_
        refine lv_iload_n hx hb dX8_tell_84 rfl (lv_at hl 0 rfl) ?_
        refine lv_imul hx hb dX8_tell_85 ?_
        refine lv_bipush (v := 100) hx hb dX8_tell_86 (by decide) ?_
        refine lv_iadd hx hb dX8_tell_88 ?_
        obtain ⟨rfl, rfl, rfl⟩ := pr3 hres
        exact W.iret hx hb hr (fun t ht hW => ⟨rfl, ⟨by rw [ht]; exact hI.1, va_K.moved hW.alike hK, hI.2.1, NW.warm hW hN⟩, hI.2.2.F ht⟩) hI.2.2.2.2 dX8_tell_89
      · replace hres := (if_neg c8).symm.trans hres
        refine lv_lookup (off := 67) (tgt := 90) hx hb dX8_tell_23 (by decide) ((lv_osw c5 rfl).trans ((lv_osw c8 rfl).trans rfl)) (by decide) ?_
        refine lv_aload_n hx hb dX8_tell_90 rfl (lv_at hl 1 rfl) ?_
        refine lv_iconst (v := 1) hx hb dX8_tell_91 (by decide) ?_
        obtain ⟨y13, e13, hres⟩ := bd hres
        refine rw_v S (c_X8_begins l D cy A X A0 v r (1 : Int32) y13.1 y13.2 e13) (cwV 1 hts gX8_tell_X8_begins rfl rfl rfl (by decide +kernel) ⟨Nat.le_of_ble_eq_true rfl, Nat.le_of_ble_eq_true rfl⟩) hI hK hN (ci := 7) rfl (atM_0) rfl rfl hl.1 rfl (Nat.le_of_ble_eq_true rfl) dX8_tell_92 ⟨Nat.zero_le _, Nat.zero_le _⟩ (fun H locs hI => ?_)
        refine lv_iload_n hx hb dX8_tell_95 rfl (lv_at hl 0 rfl) ?_
        obtain ⟨rfl, rfl, rfl⟩ := pr3 hres
        exact W.iret hx hb hr (fun t ht hW => ⟨rfl, ⟨by rw [ht]; exact hI.1, va_K.moved hW.alike hK, hI.2.1, NW.warm hW hN⟩, hI.2.2.F ht⟩) hI.2.2.2.2 dX8_tell_96
  · replace hres := (if_neg (bI_f c2)).symm.trans hres
    refine lv_iconst (v := (-1)) hx hb dX8_tell_8 (by decide) ?_
    obtain ⟨rfl, rfl, rfl⟩ := pr3 hres
    exact W.iret hx hb hr (fun t ht hW => ⟨rfl, ⟨by rw [ht]; exact hI.1, va_K.moved hW.alike hK, hI.2.1, NW.warm hW hN⟩, hI.2.2.F ht⟩) hI.2.2.2.2 dX8_tell_9
abbrev rm_X8_announce : Room := { frames := 1, cells := 0, slots := 0, locals := 21 }
def f_X8_announce (v : Nat → Int32) (r : Nat → Nat → Int32) (a1 : Int32) : Option (Int32 × ST) := (if (f_X8_isArticle v r a1) = true then if inR a1 6 = true then (if (r 4 a1.toNatClampNeg) = 2 then (f_X8_begins v r (5 : Int32)).bind (fun y8 => if inR a1 6 = true then (if (y8.2 4 a1.toNatClampNeg) = 2 then some (80, (y8.1, y8.2)) else some (a1, (y8.1, y8.2))) else none) else (f_X8_begins v r (4 : Int32)).bind (fun y5 => if inR a1 6 = true then (if (y5.2 4 a1.toNatClampNeg) = 2 then some (80, (y5.1, y5.2)) else some (a1, (y5.1, y5.2))) else none)) else none else some ((-1), (v, r)))
set_option maxHeartbeats 4000000 in
set_option maxRecDepth 100000 in
theorem c_X8_announce (l : Launch) (D : va_G) (cy : Nat → ClassId) (A : Nat → Nat) (X : va_W) (A0 : Nat → Prop) (v : Nat → Int32) (r : Nat → Nat → Int32) (a1 : Int32) (res : Int32) (v2 : Nat → Int32) (r2 : Nat → Nat → Int32) (hres : f_X8_announce v r a1 = some (res, (v2, r2))) : Met l yX8_announce wsX8_announce rm_X8_announce (va_Pc [.ref (A 0), .int a1] (GW D (tyM cy) (pcM cy A v r ++ X) A0)) (QW (some (.int res)) (GW D (tyM cy) (pcM cy A v2 r2 ++ X) A0) A0) 0 0 A0 := by
  refine Met.ofW (cc := cX8_announce) (maxL := 2) (ret := (some .int)) (by decide) rfl ?_
  intro p e s m args below meth c s₁ B hml hv
  obtain ⟨hargs, hP, hK, hD0, hN⟩ := hv
  have hx := B.exec
  have hb := B.bytes
  have hr := B.returns
  have hts := atoms_spec (ws := wsX8_announce) B.pre
  have hown : s.vm.findClass RX8 = some m.cls := findClass_of_methodNamed B.named
  have hlocks := B.notSynchronized
  have hI : IW D (pcM cy A v r ++ X) A0 s.heap s.heap [] := ⟨hP, hD0, va_S.rf⟩
  have S : CallFix p m c cX8_announce 2 s args wsX8_announce RX8 := ⟨hx, hb, hml, hown, hts⟩
  have in8 : ∀ w ∈ wsX80, w ∈ wsX8_announce := fun _ h => List.mem_cons_of_mem _ (List.mem_append_right _ h)
  have hl := lv_entry ([.ref (A 0), .int a1]) (n := 2) (Nat.le_of_ble_eq_true rfl)
  have hE : entryFrame m args 2 = F0 m 0 ((lg_sl ([.ref (A 0), .int a1]) ++ List.replicate (2 - (lg_sl ([.ref (A 0), .int a1])).length) Slot.unset).toArray) [] := by rw [hargs]; exact lg_entry_eq m [.ref (A 0), .int a1] 2
  rw [hE]
  generalize (lg_sl ([.ref (A 0), .int a1]) ++ List.replicate (2 - (lg_sl ([.ref (A 0), .int a1])).length) Slot.unset).toArray = ls at hl ⊢
  have hl : lv_has ls 2 [(0, .ref (A 0)), (1, .int a1)] := hl
  unfold f_X8_announce at hres
  refine lv_aload_n hx hb dX8_announce_0 rfl (lv_at hl 0 rfl) ?_
  refine lv_iload_n hx hb dX8_announce_1 rfl (lv_at hl 1 rfl) ?_
  refine ro_v S (c_X8_isArticle l D cy A X A0 v r a1 _ rfl) (cwV 1 hts gX8_announce_X8_isArticle rfl rfl rfl (by decide +kernel) ⟨Nat.le_of_ble_eq_true rfl, Nat.le_of_ble_eq_true rfl⟩) hI hK hN (ci := 7) rfl (atM_0) rfl rfl hl.1 rfl (Nat.le_of_ble_eq_true rfl) dX8_announce_2 ⟨Nat.zero_le _, Nat.zero_le _⟩ ?_
  refine lv_if_ne (tgt := 10) hx hb dX8_announce_5 (by decide) (fun c2 => ?_) (fun c2 => ?_)
  · replace hres := (if_pos (bI_t c2)).symm.trans hres
    refine lv_aload_n hx hb dX8_announce_10 rfl (lv_at hl 0 rfl) ?_
    refine lv_aload_n hx hb dX8_announce_11 rfl (lv_at hl 0 rfl) ?_
    refine gM_kind hx hb hts in8 hown hK hI (hts (.fieldLink RX8 22 "TrickHouseModel" "kind" "[I") (by decide +kernel)) dX8_announce_12 ?_
    refine lv_iload_n hx hb dX8_announce_15 rfl (lv_at hl 1 rfl) ?_
    obtain ⟨g3, hres⟩ := gd hres
    refine th_ild hx hb hK hI 5 0 rfl rfl g3 dX8_announce_16 ?_
    refine lv_iconst (v := 2) hx hb dX8_announce_17 (by decide) ?_
    refine lv_icmp_ne (tgt := 25) hx hb dX8_announce_18 (by decide) (fun c4 => ?_) (fun c4 => ?_)
    · replace hres := (if_neg c4).symm.trans hres
      refine lv_iconst (v := 4) hx hb dX8_announce_25 (by decide) ?_
      obtain ⟨y5, e5, hres⟩ := bd hres
      refine rw_v S (c_X8_begins l D cy A X A0 v r (4 : Int32) y5.1 y5.2 e5) (cwV 1 hts gX8_announce_X8_begins rfl rfl rfl (by decide +kernel) ⟨Nat.le_of_ble_eq_true rfl, Nat.le_of_ble_eq_true rfl⟩) hI hK hN (ci := 7) rfl (atM_0) rfl rfl hl.1 rfl (Nat.le_of_ble_eq_true rfl) dX8_announce_26 ⟨Nat.zero_le _, Nat.zero_le _⟩ (fun H locs hI => ?_)
      refine lv_aload_n hx hb dX8_announce_29 rfl (lv_at hl 0 rfl) ?_
      refine gM_kind hx hb hts in8 hown hK hI (hts (.fieldLink RX8 22 "TrickHouseModel" "kind" "[I") (by decide +kernel)) dX8_announce_30 ?_
      refine lv_iload_n hx hb dX8_announce_33 rfl (lv_at hl 1 rfl) ?_
      obtain ⟨g6, hres⟩ := gd hres
      refine th_ild hx hb hK hI 5 0 rfl rfl g6 dX8_announce_34 ?_
      refine lv_iconst (v := 2) hx hb dX8_announce_35 (by decide) ?_
      refine lv_icmp_ne (tgt := 44) hx hb dX8_announce_36 (by decide) (fun c7 => ?_) (fun c7 => ?_)
      · replace hres := (if_neg c7).symm.trans hres
        refine lv_iload_n hx hb dX8_announce_44 rfl (lv_at hl 1 rfl) ?_
        obtain ⟨rfl, rfl, rfl⟩ := pr3 hres
        exact W.iret hx hb hr (fun t ht hW => ⟨rfl, ⟨by rw [ht]; exact hI.1, va_K.moved hW.alike hK, hI.2.1, NW.warm hW hN⟩, hI.2.2.F ht⟩) hI.2.2.2.2 dX8_announce_45
      · replace hres := (if_pos c7).symm.trans hres
        refine lv_bipush (v := 80) hx hb dX8_announce_39 (by decide) ?_
        refine lv_goto (tgt := 45) hx hb dX8_announce_41 (by decide) ?_
        obtain ⟨rfl, rfl, rfl⟩ := pr3 hres
        exact W.iret hx hb hr (fun t ht hW => ⟨rfl, ⟨by rw [ht]; exact hI.1, va_K.moved hW.alike hK, hI.2.1, NW.warm hW hN⟩, hI.2.2.F ht⟩) hI.2.2.2.2 dX8_announce_45
    · replace hres := (if_pos c4).symm.trans hres
      refine lv_iconst (v := 5) hx hb dX8_announce_21 (by decide) ?_
      refine lv_goto (tgt := 26) hx hb dX8_announce_22 (by decide) ?_
      obtain ⟨y8, e8, hres⟩ := bd hres
      refine rw_v S (c_X8_begins l D cy A X A0 v r (5 : Int32) y8.1 y8.2 e8) (cwV 1 hts gX8_announce_X8_begins rfl rfl rfl (by decide +kernel) ⟨Nat.le_of_ble_eq_true rfl, Nat.le_of_ble_eq_true rfl⟩) hI hK hN (ci := 7) rfl (atM_0) rfl rfl hl.1 rfl (Nat.le_of_ble_eq_true rfl) dX8_announce_26 ⟨Nat.zero_le _, Nat.zero_le _⟩ (fun H locs hI => ?_)
      refine lv_aload_n hx hb dX8_announce_29 rfl (lv_at hl 0 rfl) ?_
      refine gM_kind hx hb hts in8 hown hK hI (hts (.fieldLink RX8 22 "TrickHouseModel" "kind" "[I") (by decide +kernel)) dX8_announce_30 ?_
      refine lv_iload_n hx hb dX8_announce_33 rfl (lv_at hl 1 rfl) ?_
      obtain ⟨g9, hres⟩ := gd hres
      refine th_ild hx hb hK hI 5 0 rfl rfl g9 dX8_announce_34 ?_
      refine lv_iconst (v := 2) hx hb dX8_announce_35 (by decide) ?_
      refine lv_icmp_ne (tgt := 44) hx hb dX8_announce_36 (by decide) (fun c10 => ?_) (fun c10 => ?_)
      · replace hres := (if_neg c10).symm.trans hres
        refine lv_iload_n hx hb dX8_announce_44 rfl (lv_at hl 1 rfl) ?_
        obtain ⟨rfl, rfl, rfl⟩ := pr3 hres
        exact W.iret hx hb hr (fun t ht hW => ⟨rfl, ⟨by rw [ht]; exact hI.1, va_K.moved hW.alike hK, hI.2.1, NW.warm hW hN⟩, hI.2.2.F ht⟩) hI.2.2.2.2 dX8_announce_45
      · replace hres := (if_pos c10).symm.trans hres
        refine lv_bipush (v := 80) hx hb dX8_announce_39 (by decide) ?_
        refine lv_goto (tgt := 45) hx hb dX8_announce_41 (by decide) ?_
        obtain ⟨rfl, rfl, rfl⟩ := pr3 hres
        exact W.iret hx hb hr (fun t ht hW => ⟨rfl, ⟨by rw [ht]; exact hI.1, va_K.moved hW.alike hK, hI.2.1, NW.warm hW hN⟩, hI.2.2.F ht⟩) hI.2.2.2.2 dX8_announce_45
  · replace hres := (if_neg (bI_f c2)).symm.trans hres
    refine lv_iconst (v := (-1)) hx hb dX8_announce_8 (by decide) ?_
    obtain ⟨rfl, rfl, rfl⟩ := pr3 hres
    exact W.iret hx hb hr (fun t ht hW => ⟨rfl, ⟨by rw [ht]; exact hI.1, va_K.moved hW.alike hK, hI.2.1, NW.warm hW hN⟩, hI.2.2.F ht⟩) hI.2.2.2.2 dX8_announce_9
abbrev rm_X8_as : Room := { frames := 1, cells := 0, slots := 0, locals := 22 }
def f_X8_as (v : Nat → Int32) (r : Nat → Nat → Int32) (a1 : Int32) (a2 : Int32) : Option (Int32 × ST) := (if (f_X8_isArticle (upd v 0 0) r a1) = true then (if (f_X8_within a2 (0 : Int32) (2 : Int32)) = true then if inR a1 6 = true then (if (r 4 a1.toNatClampNeg) < a2 then (f_X8_fails (upd v 0 0) r (2 : Int32)).bind (fun y7 => some (y7.1, (y7.2.1, y7.2.2))) else some (1, ((upd v 0 0), r))) else none else some ((-2), ((upd v 0 0), r))) else some ((-1), ((upd v 0 0), r)))
set_option maxHeartbeats 4000000 in
set_option maxRecDepth 100000 in
theorem c_X8_as (l : Launch) (D : va_G) (cy : Nat → ClassId) (A : Nat → Nat) (X : va_W) (A0 : Nat → Prop) (v : Nat → Int32) (r : Nat → Nat → Int32) (a1 : Int32) (a2 : Int32) (res : Int32) (v2 : Nat → Int32) (r2 : Nat → Nat → Int32) (hres : f_X8_as v r a1 a2 = some (res, (v2, r2))) : Met l yX8_as wsX8_as rm_X8_as (va_Pc [.ref (A 0), .int a1, .int a2] (GW D (tyM cy) (pcM cy A v r ++ X) A0)) (QW (some (.int res)) (GW D (tyM cy) (pcM cy A v2 r2 ++ X) A0) A0) 0 0 A0 := by
  refine Met.ofW (cc := cX8_as) (maxL := 3) (ret := (some .int)) (by decide) rfl ?_
  intro p e s m args below meth c s₁ B hml hv
  obtain ⟨hargs, hP, hK, hD0, hN⟩ := hv
  have hx := B.exec
  have hb := B.bytes
  have hr := B.returns
  have hts := atoms_spec (ws := wsX8_as) B.pre
  have hown : s.vm.findClass RX8 = some m.cls := findClass_of_methodNamed B.named
  have hlocks := B.notSynchronized
  have hI : IW D (pcM cy A v r ++ X) A0 s.heap s.heap [] := ⟨hP, hD0, va_S.rf⟩
  have S : CallFix p m c cX8_as 3 s args wsX8_as RX8 := ⟨hx, hb, hml, hown, hts⟩
  have in8 : ∀ w ∈ wsX80, w ∈ wsX8_as := fun _ h => List.mem_cons_of_mem _ (List.mem_append_right _ h)
  have hl := lv_entry ([.ref (A 0), .int a1, .int a2]) (n := 3) (Nat.le_of_ble_eq_true rfl)
  have hE : entryFrame m args 3 = F0 m 0 ((lg_sl ([.ref (A 0), .int a1, .int a2]) ++ List.replicate (3 - (lg_sl ([.ref (A 0), .int a1, .int a2])).length) Slot.unset).toArray) [] := by rw [hargs]; exact lg_entry_eq m [.ref (A 0), .int a1, .int a2] 3
  rw [hE]
  generalize (lg_sl ([.ref (A 0), .int a1, .int a2]) ++ List.replicate (3 - (lg_sl ([.ref (A 0), .int a1, .int a2])).length) Slot.unset).toArray = ls at hl ⊢
  have hl : lv_has ls 3 [(0, .ref (A 0)), (1, .int a1), (2, .int a2)] := hl
  unfold f_X8_as at hres
  refine lv_aload_n hx hb dX8_as_0 rfl (lv_at hl 0 rfl) ?_
  refine lv_iconst (v := 0) hx hb dX8_as_1 (by decide) ?_
  refine pM_fault hx hb hts in8 hown hK hI (hts (.fieldLink RX8 64 "TrickHouseModel" "fault" "I") (by decide +kernel)) dX8_as_2 (fun H locs hI => ?_)
  refine lv_aload_n hx hb dX8_as_5 rfl (lv_at hl 0 rfl) ?_
  refine lv_iload_n hx hb dX8_as_6 rfl (lv_at hl 1 rfl) ?_
  refine ro_v S (c_X8_isArticle l D cy A X A0 (upd v 0 0) r a1 _ rfl) (cwV 1 hts gX8_as_X8_isArticle rfl rfl rfl (by decide +kernel) ⟨Nat.le_of_ble_eq_true rfl, Nat.le_of_ble_eq_true rfl⟩) hI hK hN (ci := 7) rfl (atM_0) rfl rfl hl.1 rfl (Nat.le_of_ble_eq_true rfl) dX8_as_7 ⟨Nat.zero_le _, Nat.zero_le _⟩ ?_
  refine lv_if_ne (tgt := 15) hx hb dX8_as_10 (by decide) (fun c2 => ?_) (fun c2 => ?_)
  · replace hres := (if_pos (bI_t c2)).symm.trans hres
    refine lv_iload_n hx hb dX8_as_15 rfl (lv_at hl 2 rfl) ?_
    refine lv_iconst (v := 0) hx hb dX8_as_16 (by decide) ?_
    refine lv_iconst (v := 2) hx hb dX8_as_17 (by decide) ?_
    refine pu_s S (c_X8_within l a2 (0 : Int32) (2 : Int32) _ rfl) (va_cwS 3 hts gX8_as_X8_within rfl rfl rfl (by decide +kernel) ⟨Nat.le_of_ble_eq_true rfl, Nat.le_of_ble_eq_true rfl⟩) hN rfl hl.1 rfl (Nat.le_of_ble_eq_true rfl) dX8_as_18 ⟨Nat.zero_le _, Nat.zero_le _⟩ ?_
    refine lv_if_ne (tgt := 27) hx hb dX8_as_21 (by decide) (fun c4 => ?_) (fun c4 => ?_)
    · replace hres := (if_pos (bI_t c4)).symm.trans hres
      refine lv_aload_n hx hb dX8_as_27 rfl (lv_at hl 0 rfl) ?_
      refine gM_kind hx hb hts in8 hown hK hI (hts (.fieldLink RX8 22 "TrickHouseModel" "kind" "[I") (by decide +kernel)) dX8_as_28 ?_
      refine lv_iload_n hx hb dX8_as_31 rfl (lv_at hl 1 rfl) ?_
      obtain ⟨g5, hres⟩ := gd hres
      refine th_ild hx hb hK hI 5 0 rfl rfl g5 dX8_as_32 ?_
      refine lv_iload_n hx hb dX8_as_33 rfl (lv_at hl 2 rfl) ?_
      refine lv_icmp_lt (tgt := 41) hx hb dX8_as_34 (by decide) (fun c6 => ?_) (fun c6 => ?_)
      · replace hres := (if_pos c6).symm.trans hres
        refine lv_aload_n hx hb dX8_as_41 rfl (lv_at hl 0 rfl) ?_
        refine lv_iconst (v := 2) hx hb dX8_as_42 (by decide) ?_
        obtain ⟨y7, e7, hres⟩ := bd hres
        refine rw_v S (c_X8_fails l D cy A X A0 (upd v 0 0) r (2 : Int32) y7.1 y7.2.1 y7.2.2 e7) (cwV 1 hts gX8_as_X8_fails rfl rfl rfl (by decide +kernel) ⟨Nat.le_of_ble_eq_true rfl, Nat.le_of_ble_eq_true rfl⟩) hI hK hN (ci := 7) rfl (atM_0) rfl rfl hl.1 rfl (Nat.le_of_ble_eq_true rfl) dX8_as_43 ⟨Nat.zero_le _, Nat.zero_le _⟩ (fun H locs hI => ?_)
        obtain ⟨rfl, rfl, rfl⟩ := pr3 hres
        exact W.iret hx hb hr (fun t ht hW => ⟨rfl, ⟨by rw [ht]; exact hI.1, va_K.moved hW.alike hK, hI.2.1, NW.warm hW hN⟩, hI.2.2.F ht⟩) hI.2.2.2.2 dX8_as_46
      · replace hres := (if_neg c6).symm.trans hres
        refine lv_iconst (v := 1) hx hb dX8_as_37 (by decide) ?_
        refine lv_goto (tgt := 46) hx hb dX8_as_38 (by decide) ?_
        obtain ⟨rfl, rfl, rfl⟩ := pr3 hres
        exact W.iret hx hb hr (fun t ht hW => ⟨rfl, ⟨by rw [ht]; exact hI.1, va_K.moved hW.alike hK, hI.2.1, NW.warm hW hN⟩, hI.2.2.F ht⟩) hI.2.2.2.2 dX8_as_46
    · replace hres := (if_neg (bI_f c4)).symm.trans hres
      refine lv_bipush (v := (-2)) hx hb dX8_as_24 (by decide) ?_
      obtain ⟨rfl, rfl, rfl⟩ := pr3 hres
      exact W.iret hx hb hr (fun t ht hW => ⟨rfl, ⟨by rw [ht]; exact hI.1, va_K.moved hW.alike hK, hI.2.1, NW.warm hW hN⟩, hI.2.2.F ht⟩) hI.2.2.2.2 dX8_as_26
  · replace hres := (if_neg (bI_f c2)).symm.trans hres
    refine lv_iconst (v := (-1)) hx hb dX8_as_13 (by decide) ?_
    obtain ⟨rfl, rfl, rfl⟩ := pr3 hres
    exact W.iret hx hb hr (fun t ht hW => ⟨rfl, ⟨by rw [ht]; exact hI.1, va_K.moved hW.alike hK, hI.2.1, NW.warm hW hN⟩, hI.2.2.F ht⟩) hI.2.2.2.2 dX8_as_14
abbrev rm_X8_trace : Room := { frames := 0, cells := 0, slots := 0, locals := 0 }
def f_X8_trace (v : Nat → Int32) (r : Nat → Nat → Int32) : Int32 := ((v 1))
set_option maxHeartbeats 4000000 in
set_option maxRecDepth 100000 in
theorem c_X8_trace (l : Launch) (D : va_G) (cy : Nat → ClassId) (A : Nat → Nat) (X : va_W) (A0 : Nat → Prop) (v : Nat → Int32) (r : Nat → Nat → Int32) (res : Int32) (hres : f_X8_trace v r = res) : Met l yX8_trace wsX8_trace rm_X8_trace (va_Pc [.ref (A 0)] (GW D (tyM cy) (pcM cy A v r ++ X) A0)) (QR (.int res)) 0 0 (fun _ => False) := by
  refine Met.ofW (cc := cX8_trace) (maxL := 1) (ret := (some .int)) (by decide) rfl ?_
  intro p e s m args below meth c s₁ B hml hv
  obtain ⟨hargs, hP, hK, hD0, hN⟩ := hv
  have hx := B.exec
  have hb := B.bytes
  have hr := B.returns
  have hts := atoms_spec (ws := wsX8_trace) B.pre
  have hown : s.vm.findClass RX8 = some m.cls := findClass_of_methodNamed B.named
  have hlocks := B.notSynchronized
  have hI : IW D (pcM cy A v r ++ X) A0 s.heap s.heap [] := ⟨hP, hD0, va_S.rf⟩
  have in8 : ∀ w ∈ wsX80, w ∈ wsX8_trace := fun _ h => List.mem_cons_of_mem _ (List.mem_append_right _ h)
  have hl := lv_entry ([.ref (A 0)]) (n := 1) (Nat.le_of_ble_eq_true rfl)
  have hE : entryFrame m args 1 = F0 m 0 ((lg_sl ([.ref (A 0)]) ++ List.replicate (1 - (lg_sl ([.ref (A 0)])).length) Slot.unset).toArray) [] := by rw [hargs]; exact lg_entry_eq m [.ref (A 0)] 1
  rw [hE]
  generalize (lg_sl ([.ref (A 0)]) ++ List.replicate (1 - (lg_sl ([.ref (A 0)])).length) Slot.unset).toArray = ls at hl ⊢
  have hl : lv_has ls 1 [(0, .ref (A 0))] := hl
  unfold f_X8_trace at hres
  refine lv_aload_n hx hb dX8_trace_0 rfl (lv_at hl 0 rfl) ?_
  refine gM_trace hx hb hts in8 hown hK hI (hts (.fieldLink RX8 210 "TrickHouseModel" "trace" "I") (by decide +kernel)) dX8_trace_1 ?_
  obtain rfl := hres
  exact W.iret hx hb hr (fun t ht hW => ⟨rfl, ht⟩) (fun _ h => absurd h List.not_mem_nil) dX8_trace_4
abbrev rm_X8_fault : Room := { frames := 0, cells := 0, slots := 0, locals := 0 }
def f_X8_fault (v : Nat → Int32) (r : Nat → Nat → Int32) : Int32 := ((v 0))
set_option maxHeartbeats 4000000 in
set_option maxRecDepth 100000 in
theorem c_X8_fault (l : Launch) (D : va_G) (cy : Nat → ClassId) (A : Nat → Nat) (X : va_W) (A0 : Nat → Prop) (v : Nat → Int32) (r : Nat → Nat → Int32) (res : Int32) (hres : f_X8_fault v r = res) : Met l yX8_fault wsX8_fault rm_X8_fault (va_Pc [.ref (A 0)] (GW D (tyM cy) (pcM cy A v r ++ X) A0)) (QR (.int res)) 0 0 (fun _ => False) := by
  refine Met.ofW (cc := cX8_fault) (maxL := 1) (ret := (some .int)) (by decide) rfl ?_
  intro p e s m args below meth c s₁ B hml hv
  obtain ⟨hargs, hP, hK, hD0, hN⟩ := hv
  have hx := B.exec
  have hb := B.bytes
  have hr := B.returns
  have hts := atoms_spec (ws := wsX8_fault) B.pre
  have hown : s.vm.findClass RX8 = some m.cls := findClass_of_methodNamed B.named
  have hlocks := B.notSynchronized
  have hI : IW D (pcM cy A v r ++ X) A0 s.heap s.heap [] := ⟨hP, hD0, va_S.rf⟩
  have in8 : ∀ w ∈ wsX80, w ∈ wsX8_fault := fun _ h => List.mem_cons_of_mem _ (List.mem_append_right _ h)
  have hl := lv_entry ([.ref (A 0)]) (n := 1) (Nat.le_of_ble_eq_true rfl)
  have hE : entryFrame m args 1 = F0 m 0 ((lg_sl ([.ref (A 0)]) ++ List.replicate (1 - (lg_sl ([.ref (A 0)])).length) Slot.unset).toArray) [] := by rw [hargs]; exact lg_entry_eq m [.ref (A 0)] 1
  rw [hE]
  generalize (lg_sl ([.ref (A 0)]) ++ List.replicate (1 - (lg_sl ([.ref (A 0)])).length) Slot.unset).toArray = ls at hl ⊢
  have hl : lv_has ls 1 [(0, .ref (A 0))] := hl
  unfold f_X8_fault at hres
  refine lv_aload_n hx hb dX8_fault_0 rfl (lv_at hl 0 rfl) ?_
  refine gM_fault hx hb hts in8 hown hK hI (hts (.fieldLink RX8 64 "TrickHouseModel" "fault" "I") (by decide +kernel)) dX8_fault_1 ?_
  obtain rfl := hres
  exact W.iret hx hb hr (fun t ht hW => ⟨rfl, ht⟩) (fun _ h => absurd h List.not_mem_nil) dX8_fault_4
abbrev rm_X8_many : Room := { frames := 1, cells := 0, slots := 0, locals := 22 }
def f_X8_many (v : Nat → Int32) (r : Nat → Nat → Int32) (a1 : Int32) : Option Int32 := (if a1 = 0 then some ((v 4)) else (if a1 = 1 then some ((v 3)) else (if a1 = 2 then (f_X8_size (v 5)).bind (fun y4 => some (y4)) else (if a1 = 3 then some ((v 2)) else (if a1 = 4 then some ((v 13)) else some ((-2)))))))
set_option maxHeartbeats 4000000 in
set_option maxRecDepth 100000 in
theorem c_X8_many (l : Launch) (D : va_G) (cy : Nat → ClassId) (A : Nat → Nat) (X : va_W) (A0 : Nat → Prop) (v : Nat → Int32) (r : Nat → Nat → Int32) (a1 : Int32) (res : Int32) (hres : f_X8_many v r a1 = some res) : Met l yX8_many wsX8_many rm_X8_many (va_Pc [.ref (A 0), .int a1] (GW D (tyM cy) (pcM cy A v r ++ X) A0)) (QR (.int res)) 0 0 (fun _ => False) := by
  refine Met.ofW (cc := cX8_many) (maxL := 2) (ret := (some .int)) (by decide) rfl ?_
  intro p e s m args below meth c s₁ B hml hv
  obtain ⟨hargs, hP, hK, hD0, hN⟩ := hv
  have hx := B.exec
  have hb := B.bytes
  have hr := B.returns
  have hts := atoms_spec (ws := wsX8_many) B.pre
  have hown : s.vm.findClass RX8 = some m.cls := findClass_of_methodNamed B.named
  have hlocks := B.notSynchronized
  have hI : IW D (pcM cy A v r ++ X) A0 s.heap s.heap [] := ⟨hP, hD0, va_S.rf⟩
  have S : CallFix p m c cX8_many 2 s args wsX8_many RX8 := ⟨hx, hb, hml, hown, hts⟩
  have in8 : ∀ w ∈ wsX80, w ∈ wsX8_many := fun _ h => List.mem_cons_of_mem _ (List.mem_append_right _ h)
  have hl := lv_entry ([.ref (A 0), .int a1]) (n := 2) (Nat.le_of_ble_eq_true rfl)
  have hE : entryFrame m args 2 = F0 m 0 ((lg_sl ([.ref (A 0), .int a1]) ++ List.replicate (2 - (lg_sl ([.ref (A 0), .int a1])).length) Slot.unset).toArray) [] := by rw [hargs]; exact lg_entry_eq m [.ref (A 0), .int a1] 2
  rw [hE]
  generalize (lg_sl ([.ref (A 0), .int a1]) ++ List.replicate (2 - (lg_sl ([.ref (A 0), .int a1])).length) Slot.unset).toArray = ls at hl ⊢
  have hl : lv_has ls 2 [(0, .ref (A 0)), (1, .int a1)] := hl
  unfold f_X8_many at hres
  refine lv_iload_n hx hb dX8_many_0 rfl (lv_at hl 1 rfl) ?_
  by_cases c1 : a1 = 0
  · replace hres := (if_pos c1).symm.trans hres
    refine lv_tableIn (off := 35) (tgt := 36) hx hb dX8_many_1 (by rw [c1]; decide) (by rw [c1]; decide) (by rw [c1]; decide) (by decide) ?_
    refine lv_aload_n hx hb dX8_many_36 rfl (lv_at hl 0 rfl) ?_
    refine gM_articles hx hb hts in8 hown hK hI (hts (.fieldLink RX8 74 "TrickHouseModel" "articles" "I") (by decide +kernel)) dX8_many_37 ?_
    obtain rfl := Option.some.inj hres
    exact W.iret hx hb hr (fun t ht hW => ⟨rfl, ht⟩) (fun _ h => absurd h List.not_mem_nil) dX8_many_40
  · replace hres := (if_neg c1).symm.trans hres
    by_cases c2 : a1 = 1
    · replace hres := (if_pos c2).symm.trans hres
      refine lv_tableIn (off := 40) (tgt := 41) hx hb dX8_many_1 (by rw [c2]; decide) (by rw [c2]; decide) (by rw [c2]; decide) (by decide) ?_
      refine lv_aload_n hx hb dX8_many_41 rfl (lv_at hl 0 rfl) ?_
      refine gM_rooms hx hb hts in8 hown hK hI (hts (.fieldLink RX8 77 "TrickHouseModel" "rooms" "I") (by decide +kernel)) dX8_many_42 ?_
      obtain rfl := Option.some.inj hres
      exact W.iret hx hb hr (fun t ht hW => ⟨rfl, ht⟩) (fun _ h => absurd h List.not_mem_nil) dX8_many_45
    · replace hres := (if_neg c2).symm.trans hres
      by_cases c3 : a1 = 2
      · replace hres := (if_pos c3).symm.trans hres
        refine lv_tableIn (off := 45) (tgt := 46) hx hb dX8_many_1 (by rw [c3]; decide) (by rw [c3]; decide) (by rw [c3]; decide) (by decide) ?_
        refine lv_aload_n hx hb dX8_many_46 rfl (lv_at hl 0 rfl) ?_
        refine gM_thereNow hx hb hts in8 hown hK hI (hts (.fieldLink RX8 116 "TrickHouseModel" "thereNow" "I") (by decide +kernel)) dX8_many_47 ?_
        obtain ⟨y4, e4, hres⟩ := bd hres
        refine pu_s S (c_X8_size l (v 5) y4 e4) (va_cwS 1 hts gX8_many_X8_size rfl rfl rfl (by decide +kernel) ⟨Nat.le_of_ble_eq_true rfl, Nat.le_of_ble_eq_true rfl⟩) hN rfl hl.1 rfl (Nat.le_of_ble_eq_true rfl) dX8_many_50 ⟨Nat.zero_le _, Nat.zero_le _⟩ ?_
        obtain rfl := Option.some.inj hres
        exact W.iret hx hb hr (fun t ht hW => ⟨rfl, ht⟩) (fun _ h => absurd h List.not_mem_nil) dX8_many_53
      · replace hres := (if_neg c3).symm.trans hres
        by_cases c5 : a1 = 3
        · replace hres := (if_pos c5).symm.trans hres
          refine lv_tableIn (off := 53) (tgt := 54) hx hb dX8_many_1 (by rw [c5]; decide) (by rw [c5]; decide) (by rw [c5]; decide) (by decide) ?_
          refine lv_aload_n hx hb dX8_many_54 rfl (lv_at hl 0 rfl) ?_
          refine gM_stands hx hb hts in8 hown hK hI (hts (.fieldLink RX8 107 "TrickHouseModel" "stands" "I") (by decide +kernel)) dX8_many_55 ?_
          obtain rfl := Option.some.inj hres
          exact W.iret hx hb hr (fun t ht hW => ⟨rfl, ht⟩) (fun _ h => absurd h List.not_mem_nil) dX8_many_58
        · replace hres := (if_neg c5).symm.trans hres
          by_cases c6 : a1 = 4
          · replace hres := (if_pos c6).symm.trans hres
            refine lv_tableIn (off := 58) (tgt := 59) hx hb dX8_many_1 (by rw [c6]; decide) (by rw [c6]; decide) (by rw [c6]; decide) (by decide) ?_
            refine lv_aload_n hx hb dX8_many_59 rfl (lv_at hl 0 rfl) ?_
            refine gM_readings hx hb hts in8 hown hK hI (hts (.fieldLink RX8 119 "TrickHouseModel" "readings" "I") (by decide +kernel)) dX8_many_60 ?_
            obtain rfl := Option.some.inj hres
            exact W.iret hx hb hr (fun t ht hW => ⟨rfl, ht⟩) (fun _ h => absurd h List.not_mem_nil) dX8_many_63
          · replace hres := (if_neg c6).symm.trans hres
            have e1 := lv_neT c1 (show (0 : Int32).toInt = 0 from rfl)
            have e2 := lv_neT c2 (show (1 : Int32).toInt = 1 from rfl)
            have e3 := lv_neT c3 (show (2 : Int32).toInt = 2 from rfl)
            have e5 := lv_neT c5 (show (3 : Int32).toInt = 3 from rfl)
            have e6 := lv_neT c6 (show (4 : Int32).toInt = 4 from rfl)
            refine lv_tableOut (tgt := 64) hx hb dX8_many_1 (by omega) (by decide) ?_
            refine lv_bipush (v := (-2)) hx hb dX8_many_64 (by decide) ?_
            obtain rfl := Option.some.inj hres
            exact W.iret hx hb hr (fun t ht hW => ⟨rfl, ht⟩) (fun _ h => absurd h List.not_mem_nil) dX8_many_66
