theorem law_arith {L i : Nat} (hL : L ≤ 384) (hi : i ≤ L + 6) (h : ¬ Int32.ofNat L - 6 < nI i) : i + 6 ≤ L := by
  rcases Nat.lt_or_ge L 6 with q | q
  · exact absurd (by
      show nI L - nI 6 < nI i
      have h1 : (nI L - nI 6).toInt = (L : Int) - 6 := pk_sub_toInt (by omega) (by omega)
      have h2 : (nI i).toInt = (i : Int) := nI_toInt (by omega)
      rw [Int32.lt_iff_toInt_lt, h1, h2]
      omega) h
  · have e : Int32.ofNat L - 6 = nI (L - 6) := pk_sub (a := L) (b := 6) q
    rw [e] at h
    rcases Nat.lt_or_ge (L - 6) i with z | z
    · exact absurd (nI_lt z (by omega)) h
    · omega
def Ops (Rl : RLT) : Prop := Op0 Rl ∧ Op1 Rl ∧ Op2 Rl ∧ Op3 Rl ∧ Op4 Rl ∧ Op5 Rl ∧ Op6 Rl ∧ Op7 Rl ∧ Op8 Rl ∧ Op9 Rl ∧ Op10 Rl ∧ Op11 Rl ∧ Op12 Rl ∧ Op13 Rl ∧ Op14 Rl ∧ Op15 Rl ∧ Op16 Rl ∧ Op17 Rl ∧ Op18 Rl ∧ Op19 Rl ∧ Op20 Rl ∧ Op21 Rl ∧ Op22 Rl ∧ Op23 Rl ∧ Op24 Rl ∧ Op25 Rl ∧ Op26 Rl ∧ Op27 Rl ∧ Op28 Rl ∧ Op29 Rl ∧ Op30 Rl ∧ Op31 Rl ∧ Op32 Rl ∧ Op33 Rl
set_option maxHeartbeats 8000000 in
set_option maxRecDepth 100000 in
theorem law_loop {p : Program} {l : Launch} {e : Env} {s : State} {m : MethodId} {args : Array Value} {below : List Frame} {meth : Method} {c : Code} {D : va_G} {cy : Nat → ClassId} {A B : Nat → Nat} {b L : Nat} {xs : Nat → Int32} {Q : State → Prop} {Rl : RLT} (hL : L ≤ 384) (C : LCx p s m args c D cy b L xs) (hops : Ops Rl) (kend : ∀ (H : Heap) (locs : List Loc) (ls : Array Slot), va_S (lA0 s) s.heap H locs → W p l e room_1 s m args below meth c H locs 46 716 Q (F0 m 1185 ls [])) : ∀ (n i : Nat) (v : V1) (r : V2) (w : V1) (q : V2) (H : Heap) (locs : List Loc) (ls : Array Slot), L + 6 < i + n → IW D (pcC cy A v r ++ pcM cy B w q) (lA0 s) s.heap H locs → Rl v r w q → lv_has ls 4 [(0, .ref b), (1, .ref (A 0)), (2, .ref (B 0)), (3, .int (nI i))] → i ≤ L + 6 → W p l e room_1 s m args below meth c H locs 46 716 Q (F0 m 18 ls []) := by
  have C0 := C
  obtain ⟨hx, hb, hml, hown, hts, hX, hbl, hK, hN⟩ := C
  have hbA : ¬ (lA0 s) b := Nat.not_le.mpr hbl
  obtain ⟨o0, o1, o2, o3, o4, o5, o6, o7, o8, o9, o10, o11, o12, o13, o14, o15, o16, o17, o18, o19, o20, o21, o22, o23, o24, o25, o26, o27, o28, o29, o30, o31, o32, o33⟩ := hops
  intro n
  induction n with
  | zero => intro i v r w q H locs ls h1 _ _ _ h2; exact absurd h1 (by omega)
  | succ n ih =>
    intro i v r w q H locs ls hn hI hRl hl hi
    refine lv_iload_n hx hb dL_law_18 rfl (lv_at hl 3 rfl) ?_
    refine lv_aload_n hx hb dL_law_19 rfl (lv_at hl 0 rfl) ?_
    refine va_slen hx hb hX hbl hbA hI.2.2 dL_law_20 ?_
    refine lv_bipush (v := 6) hx hb dL_law_21 (by decide) ?_
    refine lv_isub hx hb dL_law_23 ?_
    refine lv_icmp_gt (tgt := 1185) hx hb dL_law_24 (by decide) (fun c1 => ?_) (fun c1 => ?_)
    · exact kend H _ ls hI.2.2
    · have hle : i + 6 ≤ L := law_arith hL hi c1
      have h1 : vp_in (nI i + 1) L := by rw [show nI i + 1 = nI (i + 1) from (nI_add i 1)]; exact vp_in_nI (by omega) (by omega)
      have h2 : vp_in (nI i + 2) L := by rw [show nI i + 2 = nI (i + 2) from (nI_add i 2)]; exact vp_in_nI (by omega) (by omega)
      have h3 : vp_in (nI i + 3) L := by rw [show nI i + 3 = nI (i + 3) from (nI_add i 3)]; exact vp_in_nI (by omega) (by omega)
      have h4 : vp_in (nI i + 4) L := by rw [show nI i + 4 = nI (i + 4) from (nI_add i 4)]; exact vp_in_nI (by omega) (by omega)
      have h5 : vp_in (nI i + 5) L := by rw [show nI i + 5 = nI (i + 5) from (nI_add i 5)]; exact vp_in_nI (by omega) (by omega)
      have h0 : vp_in (nI i) L := vp_in_nI (by omega) (by omega)
      refine lv_aload_n hx hb dL_law_27 rfl (lv_at hl 0 rfl) ?_
      refine lv_iload_n hx hb dL_law_28 rfl (lv_at hl 3 rfl) ?_
      refine va_sld hx hb hX hbl hbA hI.2.2 h0 dL_law_29 ?_
      refine lv_bipush (v := 63) hx hb dL_law_30 (by decide) ?_
      refine lv_iand hx hb dL_law_32 ?_
      have kk : ∀ (v : V1) (r : V2) (w : V1) (q : V2) (H : Heap) (locs : List Loc) (ls : Array Slot), IW D (pcC cy A v r ++ pcM cy B w q) (lA0 s) s.heap H locs → Rl v r w q → lv_has ls 4 [(0, .ref b), (1, .ref (A 0)), (2, .ref (B 0)), (3, .int (nI i))] → W p l e room_1 s m args below meth c H locs 46 716 Q (F0 m 1179 ls []) := by
        intro v r w q H locs ls hI hRl hl
        refine lv_iinc (v := nI (i + 6)) (lv' := [(3, .int (nI (i + 6))), (0, .ref b), (1, .ref (A 0)), (2, .ref (B 0))]) hx hb dL_law_1179 hl (k := 3) rfl (nI_add i 6) (by decide) rfl (fun ls hl => ?_)
        refine lv_goto (tgt := 18) hx hb dL_law_1182 (by decide) ?_
        exact ih (i + 6) v r w q H locs ls (by omega) hI hRl (lv_sub hl [1, 2, 3, 0] rfl) (by omega)
      generalize xs (nI i).toNatClampNeg &&& 63 = x
      by_cases c10 : x = 0
      · refine lv_tableIn (off := 151) (tgt := 184) hx hb dL_law_33 (by rw [c10]; decide) (by rw [c10]; decide) (by rw [c10]; decide) (by decide) ?_
        exact law_c0 C0 o0 hI hRl (nI i) h1 h2 h3 h4 h5 hl kk
      by_cases c11 : x = 1
      · refine lv_tableIn (off := 204) (tgt := 237) hx hb dL_law_33 (by rw [c11]; decide) (by rw [c11]; decide) (by rw [c11]; decide) (by decide) ?_
        exact law_c1 C0 o1 hI hRl (nI i) h1 h2 h3 h4 h5 hl kk
      by_cases c12 : x = 2
      · refine lv_tableIn (off := 237) (tgt := 270) hx hb dL_law_33 (by rw [c12]; decide) (by rw [c12]; decide) (by rw [c12]; decide) (by decide) ?_
        exact law_c2 C0 o2 hI hRl (nI i) h1 h2 h3 h4 h5 hl kk
      by_cases c13 : x = 3
      · refine lv_tableIn (off := 260) (tgt := 293) hx hb dL_law_33 (by rw [c13]; decide) (by rw [c13]; decide) (by rw [c13]; decide) (by decide) ?_
        exact law_c3 C0 o3 hI hRl (nI i) h1 h2 h3 h4 h5 hl kk
      by_cases c14 : x = 4
      · refine lv_tableIn (off := 293) (tgt := 326) hx hb dL_law_33 (by rw [c14]; decide) (by rw [c14]; decide) (by rw [c14]; decide) (by decide) ?_
        exact law_c4 C0 o4 hI hRl (nI i) h1 h2 h3 h4 h5 hl kk
      by_cases c15 : x = 5
      · refine lv_tableIn (off := 326) (tgt := 359) hx hb dL_law_33 (by rw [c15]; decide) (by rw [c15]; decide) (by rw [c15]; decide) (by decide) ?_
        exact law_c5 C0 o5 hI hRl (nI i) h1 h2 h3 h4 h5 hl kk
      by_cases c16 : x = 6
      · refine lv_tableIn (off := 359) (tgt := 392) hx hb dL_law_33 (by rw [c16]; decide) (by rw [c16]; decide) (by rw [c16]; decide) (by decide) ?_
        exact law_c6 C0 o6 hI hRl (nI i) h1 h2 h3 h4 h5 hl kk
      by_cases c17 : x = 7
      · refine lv_tableIn (off := 382) (tgt := 415) hx hb dL_law_33 (by rw [c17]; decide) (by rw [c17]; decide) (by rw [c17]; decide) (by decide) ?_
        exact law_c7 C0 o7 hI hRl (nI i) h1 h2 h3 h4 h5 hl kk
      by_cases c18 : x = 8
      · refine lv_tableIn (off := 395) (tgt := 428) hx hb dL_law_33 (by rw [c18]; decide) (by rw [c18]; decide) (by rw [c18]; decide) (by decide) ?_
        exact law_c8 C0 o8 hI hRl (nI i) h1 h2 h3 h4 h5 hl kk
      by_cases c19 : x = 9
      · refine lv_tableIn (off := 418) (tgt := 451) hx hb dL_law_33 (by rw [c19]; decide) (by rw [c19]; decide) (by rw [c19]; decide) (by decide) ?_
        exact law_c9 C0 o9 hI hRl (nI i) h1 h2 h3 h4 h5 hl kk
      by_cases c20 : x = 10
      · refine lv_tableIn (off := 441) (tgt := 474) hx hb dL_law_33 (by rw [c20]; decide) (by rw [c20]; decide) (by rw [c20]; decide) (by decide) ?_
        exact law_c10 C0 o10 hI hRl (nI i) h1 h2 h3 h4 h5 hl kk
      by_cases c21 : x = 11
      · refine lv_tableIn (off := 464) (tgt := 497) hx hb dL_law_33 (by rw [c21]; decide) (by rw [c21]; decide) (by rw [c21]; decide) (by decide) ?_
        exact law_c11 C0 o11 hI hRl (nI i) h1 h2 h3 h4 h5 hl kk
      by_cases c22 : x = 12
      · refine lv_tableIn (off := 477) (tgt := 510) hx hb dL_law_33 (by rw [c22]; decide) (by rw [c22]; decide) (by rw [c22]; decide) (by decide) ?_
        exact law_c12 C0 o12 hI hRl (nI i) h1 h2 h3 h4 h5 hl kk
      by_cases c23 : x = 13
      · refine lv_tableIn (off := 500) (tgt := 533) hx hb dL_law_33 (by rw [c23]; decide) (by rw [c23]; decide) (by rw [c23]; decide) (by decide) ?_
        exact law_c13 C0 o13 hI hRl (nI i) h1 h2 h3 h4 h5 hl kk
      by_cases c24 : x = 14
      · refine lv_tableIn (off := 563) (tgt := 596) hx hb dL_law_33 (by rw [c24]; decide) (by rw [c24]; decide) (by rw [c24]; decide) (by decide) ?_
        exact law_c14 C0 o14 hI hRl (nI i) h1 h2 h3 h4 h5 hl kk
      by_cases c25 : x = 15
      · refine lv_tableIn (off := 596) (tgt := 629) hx hb dL_law_33 (by rw [c25]; decide) (by rw [c25]; decide) (by rw [c25]; decide) (by decide) ?_
        exact law_c15 C0 o15 hI hRl (nI i) h1 h2 h3 h4 h5 hl kk
      by_cases c26 : x = 16
      · refine lv_tableIn (off := 619) (tgt := 652) hx hb dL_law_33 (by rw [c26]; decide) (by rw [c26]; decide) (by rw [c26]; decide) (by decide) ?_
        exact law_c16 C0 o16 hI hRl (nI i) h1 h2 h3 h4 h5 hl kk
      by_cases c27 : x = 17
      · refine lv_tableIn (off := 642) (tgt := 675) hx hb dL_law_33 (by rw [c27]; decide) (by rw [c27]; decide) (by rw [c27]; decide) (by decide) ?_
        exact law_c17 C0 o17 hI hRl (nI i) h1 h2 h3 h4 h5 hl kk
      by_cases c28 : x = 18
      · refine lv_tableIn (off := 675) (tgt := 708) hx hb dL_law_33 (by rw [c28]; decide) (by rw [c28]; decide) (by rw [c28]; decide) (by decide) ?_
        exact law_c18 C0 o18 hI hRl (nI i) h1 h2 h3 h4 h5 hl kk
      by_cases c29 : x = 19
      · refine lv_tableIn (off := 698) (tgt := 731) hx hb dL_law_33 (by rw [c29]; decide) (by rw [c29]; decide) (by rw [c29]; decide) (by decide) ?_
        exact law_c19 C0 o19 hI hRl (nI i) h1 h2 h3 h4 h5 hl kk
      by_cases c30 : x = 20
      · refine lv_tableIn (off := 721) (tgt := 754) hx hb dL_law_33 (by rw [c30]; decide) (by rw [c30]; decide) (by rw [c30]; decide) (by decide) ?_
        exact law_c20 C0 o20 hI hRl (nI i) h1 h2 h3 h4 h5 hl kk
      by_cases c31 : x = 21
      · refine lv_tableIn (off := 744) (tgt := 777) hx hb dL_law_33 (by rw [c31]; decide) (by rw [c31]; decide) (by rw [c31]; decide) (by decide) ?_
        exact law_c21 C0 o21 hI hRl (nI i) h1 h2 h3 h4 h5 hl kk
      by_cases c32 : x = 22
      · refine lv_tableIn (off := 768) (tgt := 801) hx hb dL_law_33 (by rw [c32]; decide) (by rw [c32]; decide) (by rw [c32]; decide) (by decide) ?_
        exact law_c22 C0 o22 hI hRl (nI i) h1 h2 h3 h4 h5 hl kk
      by_cases c33 : x = 23
      · refine lv_tableIn (off := 802) (tgt := 835) hx hb dL_law_33 (by rw [c33]; decide) (by rw [c33]; decide) (by rw [c33]; decide) (by decide) ?_
        exact law_c23 C0 o23 hI hRl (nI i) h1 h2 h3 h4 h5 hl kk
      by_cases c34 : x = 24
      · refine lv_tableIn (off := 845) (tgt := 878) hx hb dL_law_33 (by rw [c34]; decide) (by rw [c34]; decide) (by rw [c34]; decide) (by decide) ?_
        exact law_c24 C0 o24 hI hRl (nI i) h1 h2 h3 h4 h5 hl kk
      by_cases c35 : x = 25
      · refine lv_tableIn (off := 868) (tgt := 901) hx hb dL_law_33 (by rw [c35]; decide) (by rw [c35]; decide) (by rw [c35]; decide) (by decide) ?_
        exact law_c25 C0 o25 hI hRl (nI i) h1 h2 h3 h4 h5 hl kk
      by_cases c36 : x = 26
      · refine lv_tableIn (off := 911) (tgt := 944) hx hb dL_law_33 (by rw [c36]; decide) (by rw [c36]; decide) (by rw [c36]; decide) (by decide) ?_
        exact law_c26 C0 o26 hI hRl (nI i) h1 h2 h3 h4 h5 hl kk
      by_cases c37 : x = 27
      · refine lv_tableIn (off := 955) (tgt := 988) hx hb dL_law_33 (by rw [c37]; decide) (by rw [c37]; decide) (by rw [c37]; decide) (by decide) ?_
        exact law_c27 C0 o27 hI hRl (nI i) h1 h2 h3 h4 h5 hl kk
      by_cases c38 : x = 28
      · refine lv_tableIn (off := 1018) (tgt := 1051) hx hb dL_law_33 (by rw [c38]; decide) (by rw [c38]; decide) (by rw [c38]; decide) (by decide) ?_
        exact law_c28 C0 o28 hI hRl (nI i) h1 h2 h3 h4 h5 hl kk
      by_cases c39 : x = 29
      · refine lv_tableIn (off := 1041) (tgt := 1074) hx hb dL_law_33 (by rw [c39]; decide) (by rw [c39]; decide) (by rw [c39]; decide) (by decide) ?_
        exact law_c29 C0 o29 hI hRl (nI i) h1 h2 h3 h4 h5 hl kk
      by_cases c40 : x = 30
      · refine lv_tableIn (off := 1064) (tgt := 1097) hx hb dL_law_33 (by rw [c40]; decide) (by rw [c40]; decide) (by rw [c40]; decide) (by decide) ?_
        exact law_c30 C0 o30 hI hRl (nI i) h1 h2 h3 h4 h5 hl kk
      by_cases c41 : x = 31
      · refine lv_tableIn (off := 1097) (tgt := 1130) hx hb dL_law_33 (by rw [c41]; decide) (by rw [c41]; decide) (by rw [c41]; decide) (by decide) ?_
        exact law_c31 C0 o31 hI hRl (nI i) h1 h2 h3 h4 h5 hl kk
      by_cases c42 : x = 32
      · refine lv_tableIn (off := 1110) (tgt := 1143) hx hb dL_law_33 (by rw [c42]; decide) (by rw [c42]; decide) (by rw [c42]; decide) (by decide) ?_
        exact law_c32 C0 o32 hI hRl (nI i) h1 h2 h3 h4 h5 hl kk
      by_cases c43 : x = 33
      · refine lv_tableIn (off := 1123) (tgt := 1156) hx hb dL_law_33 (by rw [c43]; decide) (by rw [c43]; decide) (by rw [c43]; decide) (by decide) ?_
        exact law_c33 C0 o33 hI hRl (nI i) h1 h2 h3 h4 h5 hl kk
      have e10 := lv_neT c10 (show (0 : Int32).toInt = 0 from rfl)
      have e11 := lv_neT c11 (show (1 : Int32).toInt = 1 from rfl)
      have e12 := lv_neT c12 (show (2 : Int32).toInt = 2 from rfl)
      have e13 := lv_neT c13 (show (3 : Int32).toInt = 3 from rfl)
      have e14 := lv_neT c14 (show (4 : Int32).toInt = 4 from rfl)
      have e15 := lv_neT c15 (show (5 : Int32).toInt = 5 from rfl)
      have e16 := lv_neT c16 (show (6 : Int32).toInt = 6 from rfl)
      have e17 := lv_neT c17 (show (7 : Int32).toInt = 7 from rfl)
      have e18 := lv_neT c18 (show (8 : Int32).toInt = 8 from rfl)
      have e19 := lv_neT c19 (show (9 : Int32).toInt = 9 from rfl)
      have e20 := lv_neT c20 (show (10 : Int32).toInt = 10 from rfl)
      have e21 := lv_neT c21 (show (11 : Int32).toInt = 11 from rfl)
      have e22 := lv_neT c22 (show (12 : Int32).toInt = 12 from rfl)
      have e23 := lv_neT c23 (show (13 : Int32).toInt = 13 from rfl)
      have e24 := lv_neT c24 (show (14 : Int32).toInt = 14 from rfl)
      have e25 := lv_neT c25 (show (15 : Int32).toInt = 15 from rfl)
      have e26 := lv_neT c26 (show (16 : Int32).toInt = 16 from rfl)
      have e27 := lv_neT c27 (show (17 : Int32).toInt = 17 from rfl)
      have e28 := lv_neT c28 (show (18 : Int32).toInt = 18 from rfl)
      have e29 := lv_neT c29 (show (19 : Int32).toInt = 19 from rfl)
      have e30 := lv_neT c30 (show (20 : Int32).toInt = 20 from rfl)
      have e31 := lv_neT c31 (show (21 : Int32).toInt = 21 from rfl)
      have e32 := lv_neT c32 (show (22 : Int32).toInt = 22 from rfl)
      have e33 := lv_neT c33 (show (23 : Int32).toInt = 23 from rfl)
      have e34 := lv_neT c34 (show (24 : Int32).toInt = 24 from rfl)
      have e35 := lv_neT c35 (show (25 : Int32).toInt = 25 from rfl)
      have e36 := lv_neT c36 (show (26 : Int32).toInt = 26 from rfl)
      have e37 := lv_neT c37 (show (27 : Int32).toInt = 27 from rfl)
      have e38 := lv_neT c38 (show (28 : Int32).toInt = 28 from rfl)
      have e39 := lv_neT c39 (show (29 : Int32).toInt = 29 from rfl)
      have e40 := lv_neT c40 (show (30 : Int32).toInt = 30 from rfl)
      have e41 := lv_neT c41 (show (31 : Int32).toInt = 31 from rfl)
      have e42 := lv_neT c42 (show (32 : Int32).toInt = 32 from rfl)
      have e43 := lv_neT c43 (show (33 : Int32).toInt = 33 from rfl)
      refine lv_tableOut (tgt := 1179) hx hb dL_law_33 (by omega) (by decide) ?_
      exact kk v r w q H _ ls hI hRl hl
