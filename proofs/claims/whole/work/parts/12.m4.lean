/-! call 0 -/
theorem cp_eq {B : Nat} {old src new src' new' : Nat → Int32} (h : CPY 0 B old src new) (h' : CPY 0 B old src' new') (e : ∀ i, i < B → src i = src' i) : new = new' := by
  funext i
  rcases Nat.lt_or_ge i B with hi | hi
  · rw [h.2 i (by omega) hi, h'.2 i (by omega) hi, e i hi]
  · rw [h.1 i (by omega), h'.1 i (by omega)]
theorem cp_le {B M : Nat} {old src new : Nat → Int32} (h : CPY 0 B old src new) (h1 : ∀ i, ∃ z, z ≤ M ∧ old i = nI z) (h2 : ∀ i, i < B → ∃ z, z ≤ M ∧ src i = nI z) : ∀ i, ∃ z, z ≤ M ∧ new i = nI z := by
  intro i
  rcases Nat.lt_or_ge i B with hi | hi
  · rw [h.2 i (by omega) hi]; exact h2 i hi
  · rw [h.1 i (by omega)]; exact h1 i
theorem cp_lt {B M : Nat} {old src new : Nat → Int32} (h : CPY 0 B old src new) (h1 : ∀ i, ∃ z, z < M ∧ old i = nI z) (h2 : ∀ i, i < B → ∃ z, z < M ∧ src i = nI z) : ∀ i, ∃ z, z < M ∧ new i = nI z := by
  intro i
  rcases Nat.lt_or_ge i B with hi | hi
  · rw [h.2 i (by omega) hi]; exact h2 i hi
  · rw [h.1 i (by omega)]; exact h1 i
theorem op0 : Op0 Rel := by
  intro v r w q z0 z1 z2 z3 hR0
  have hR := Rel_fault hR0 0
  unfold f_X7_city f_X8_city
  generalize upd v 1 0 = v' at hR ⊢
  generalize upd w 0 0 = w' at hR ⊢
  have hS := hR.2.2.1
  rw [isSheet8, isSort8]
  cases hb : f_X7_isSheet z0 with
  | false => exact ⟨_, _, r, _, q, rfl, rfl, hR⟩
  | true =>
    obtain ⟨j, hj, rfl⟩ := isSheet_nI hb
    cases hb2 : f_X7_isLane z1 with
    | false => exact ⟨_, _, r, _, q, rfl, rfl, hR⟩
    | true =>
      obtain ⟨la, hla, rfl⟩ := isLane_nI hb2
      rw [if_pos rfl, if_pos rfl, if_pos rfl, if_pos rfl, if_pos (in4 hj), cl4 hj, take_eq hS v' w' hj hla, Option.bind_some]
      by_cases hf : f_X4_faultOfTaking v' r j (nI la) z2 z3 = 0
      · rw [if_pos hf, if_pos hf]
        obtain ⟨N, a, n, hN, t1, t2, t3, t4, rfl, rfl, t6, t7⟩ := take_0 hS v' hj hf
        obtain ⟨ht, hf', -, c, d, k, m, t, kd, bk, gy, lo, sp, cn, vl, hG, ⟨c2, c3, c4, c5, c6, r0, r1, r2, r3, r4, r5, r6⟩, ⟨w4, w3, w2, w5, w13, q4, q5, q6, q7, q3, q16, q17⟩⟩ := id hR
        have hT : TX j a n (fun p => r (12 + j) (a + p)) r q := ⟨by omega, by omega, by omega, fun v p hp => at_nat v t3 hN (a := a + p) (by omega), fun p hp => by rw [Nat.add_assoc]; exact (t7 (a + p) (by omega)).symm⟩
        generalize (fun p => r (12 + j) (a + p)) = cd at hT
        have eX : (60 : Int32) * nI j + nI a = nI (60 * j + a) := by
          show nI 60 * nI j + nI a = _
          rw [pk_mul, nI_add]
        rw [eX, nI_add (60 * j + a) n]
        obtain ⟨R, eR, hR4, hd, he⟩ := C_rooms (v := v') hT
        have hCF : CF v' r j a n R 0 = f_X5_firstFault_10 v' r j (nI a) (nI n) 80 (nI R) 0 := by
          unfold CF
          rw [Nat.sub_zero, nI_0]
        unfold f_X5_firstFault
        rw [eR, Option.bind_some, ← hCF]
        rcases M_read (v := v') hT hR4 hd he (w := upd w' 6 (nI (60 * j + a))) pk_us with ⟨p', w1, q1, g1, g2, g3, g4, g5⟩ | ⟨B, w1, q1, y1, y2, hR0', hB0, hB, hn, g1, g3, hy1, hy2, ey1, ey2, g7, g8, g9, g5, g10, g11⟩
        · rw [g1, g3, Option.bind_some, Option.bind_some, if_neg (nIm9 (a := p') (by omega))]
          dsimp only
          rw [if_neg Bool.false_ne_true, g2, pk_sub (Nat.le_add_right _ _), Nat.add_sub_cancel_left]
          have hw : ∀ i, i ≠ 6 → i ≠ 7 → i ≠ 8 → i ≠ 9 → w1 i = w' i := fun i i1 i2 i3 i4 => by rw [g5.1 i i1 i2 i3 i4, pk_un i1]
          refine ⟨_, v', r, w1, q1, rfl, rfl, ?_⟩
          exact Rel_of c d k m t kd bk gy lo sp cn vl (by rw [hw 1 (by decide) (by decide) (by decide) (by decide), ht]) (by rw [hw 0 (by decide) (by decide) (by decide) (by decide), hf']) (hS.c (fun _ _ => rfl) (fun i hi => g5.2 i (by omega))) hG c2 c3 c4 c5 c6 r0 r1 r2 r3 r4 r5 r6 (by rw [hw 4 (by decide) (by decide) (by decide) (by decide), w4]) (by rw [hw 3 (by decide) (by decide) (by decide) (by decide), w3]) (by rw [hw 2 (by decide) (by decide) (by decide) (by decide), w2]) (by rw [hw 5 (by decide) (by decide) (by decide) (by decide), w5]) (by rw [hw 13 (by decide) (by decide) (by decide) (by decide), w13]) (by rw [g5.2 4 (by omega), q4]) (by rw [g5.2 5 (by omega), q5]) (by rw [g5.2 6 (by omega), q6]) (by rw [g5.2 7 (by omega), q7]) (by rw [g5.2 3 (by omega), q3]) (by rw [g5.2 16 (by omega), q16]) (by rw [g5.2 17 (by omega), q17])
        · rw [g1, g3, Option.bind_some, Option.bind_some, if_pos rfl]
          dsimp only
          rw [if_pos rfl]
          unfold f_X5_build f_X8_takeCity
          have ea2 : nI a + 2 = nI (a + 2) := nI_add a 2
          have ea1 : nI a + 1 = nI (a + 1) := nI_add a 1
          have ek : (8 : Int32) * nI y2 + nI y1 = nI (8 * y2 + y1) := by
            show nI 8 * nI y2 + nI y1 = _
            rw [pk_mul, nI_add]
          rw [eR, Option.bind_some, ea2, ea1, C_dig hT (fun _ _ => rfl) (p := 2) (by omega), Option.bind_some, C_dig hT (fun _ _ => rfl) (p := 1) (by omega), Option.bind_some, ey1, ey2, ek]
          obtain ⟨ra, a1, a2, a3⟩ := B39 hT hR4 (by omega) (nI n) (upd (upd v' 4 (nI (8 * y2 + y1))) 3 (nI R)) R 0 80 r (by omega) (by omega) (fun _ _ => rfl)
          have hnB := nB ⟨R, by omega⟩ ⟨B, by omega⟩
          dsimp only at hnB
          rw [← hn] at hnB
          rw [hnB] at a1
          obtain ⟨rb, b1, b2, b3, b4, b5, b6⟩ := B98 hT hB hn (nI n) B 0 80 (upd (upd (upd v' 4 (nI (8 * y2 + y1))) 3 (nI R)) 2 (nI B)) ra (by omega) (by omega) pk_us (fun i hi => a2 i (by omega))
          rw [nI_0] at a1 b1
          have e8 : upd w1 2 (w1 7) 8 = nI R := by rw [pk_un (by decide), g8]
          rw [e8]
          obtain ⟨qa, u1, u2, u3, u4⟩ := T18 hR4 (w := upd (upd w1 2 (w1 7)) 3 (nI R)) pk_us R 0 80 q1 (by omega) (by omega)
          have e9 : upd (upd w1 2 (w1 7)) 3 (nI R) 9 = nI B := by rw [pk_un (by decide), pk_un (by decide), g9]
          rw [e9] at u1
          obtain ⟨qb, s1, s2, s3, s4, s5, s6⟩ := T54 hB (w := upd (upd (upd w1 2 (w1 7)) 3 (nI R)) 4 (nI B)) pk_us B 0 80 qa (by omega) (by omega)
          rw [nI_0] at u1 s1
          rw [a1, b1, u1, s1, Option.bind_some, Option.bind_some]
          dsimp only
          have hw : ∀ i, i ≠ 6 → i ≠ 7 → i ≠ 8 → i ≠ 9 → w1 i = w' i := fun i i1 i2 i3 i4 => by rw [g5.1 i i1 i2 i3 i4, pk_un i1]
          have f4 : CPY 0 R sp (fun i => cd (4 + i) - 48) (rb 4) := by rw [b2 4 (by omega), ← r4]; exact a3
          have f3 : CPY 0 R sp (fun i => cd (4 + i) - 48) (qb 3) := by
            rw [s2 3 (by omega)]
            refine ⟨fun i hi => by rw [u3 i hi, g5.2 3 (by omega), q3], fun i h1 h2 => by rw [u4 i h1 h2, g10 i h2]⟩
          have x0 : CPY 0 B kd (fun i => f_X5_kindOf (cd (4 + R + 6 * i + 1))) (rb 0) := by rw [← r0, ← a2 0 (by decide)]; exact b3
          have x1 : CPY 0 B bk (fun i => cd (4 + R + 6 * i + 2) - 48) (rb 1) := by rw [← r1, ← a2 1 (by decide)]; exact b4
          have x2 : CPY 0 B gy (fun i => cd (4 + R + 6 * i + 3) - 48) (rb 2) := by rw [← r2, ← a2 2 (by decide)]; exact b5
          have x3 : CPY 0 B lo (fun i => 10 * (cd (4 + R + 6 * i + 4) - 48) + (cd (4 + R + 6 * i + 5) - 48)) (rb 3) := by rw [← r3, ← a2 3 (by decide)]; exact b6
          rw [u2 4 (by decide), u2 9 (by decide), g5.2 4 (by omega), q4] at s3
          rw [u2 5 (by decide), u2 10 (by decide), g5.2 5 (by omega), q5] at s4
          rw [u2 6 (by decide), u2 11 (by decide), g5.2 6 (by omega), q6] at s5
          rw [u2 7 (by decide), u2 12 (by decide), g5.2 7 (by omega), q7] at s6
          have hpw : 0 < 2 ^ B := Nat.pow_pos (by decide)
          have hG1 : RG B R (8 * y2 + y1) 0 0 (rb 0) (rb 1) (rb 2) (rb 3) (rb 4) cn vl := ⟨hB, hR4, fun _ => hR0', by omega, hpw, by omega, cp_lt x0 hG.2.2.2.2.2.2.1 (fun i hi => (g11 i hi).2.1), cp_le x1 hG.2.2.2.2.2.2.2.1 (fun i hi => (g11 i hi).2.2.1), cp_le x2 hG.2.2.2.2.2.2.2.2.1 (fun i hi => (g11 i hi).2.2.2.1), cp_le x3 hG.2.2.2.2.2.2.2.2.2.1 (fun i hi => (g11 i hi).2.2.2.2), cp_le f4 hG.2.2.2.2.2.2.2.2.2.2.1 (fun i hi => dig_nat (lo := 1) (hi := 9) (by omega) (by omega) (hd i hi).2), hG.2.2.2.2.2.2.2.2.2.2.2.1, hG.2.2.2.2.2.2.2.2.2.2.2.2⟩
          refine ⟨nI B, upd (upd (upd (upd (upd v' 4 (nI (8 * y2 + y1))) 3 (nI R)) 2 (nI B)) 5 0) 6 0, rb, upd (upd (upd (upd (upd w1 2 (w1 7)) 3 (nI R)) 4 (nI B)) 5 0) 13 0, qb, ?_, ?_, Rel_of B R (8 * y2 + y1) 0 0 (rb 0) (rb 1) (rb 2) (rb 3) (rb 4) cn vl ?_ ?_ (hS.c (fun i hi => by rw [b2 i (by omega), a2 i (by omega)]) (fun i hi => by rw [s2 i (by omega), u2 i (by omega), g5.2 i (by omega)])) hG1 ?_ ?_ ?_ ?_ ?_ rfl rfl rfl rfl rfl (by rw [b2 5 (by omega), a2 5 (by decide), r5]) (by rw [b2 6 (by omega), a2 6 (by decide), r6]) ?_ ?_ ?_ ?_ ?_ (cp_eq s3 x0 (fun i hi => (g11 i hi).1.1)) (cp_eq s4 x1 (fun i hi => (g11 i hi).1.2.1)) (cp_eq s5 x2 (fun i hi => (g11 i hi).1.2.2.1)) (cp_eq s6 x3 (fun i hi => (g11 i hi).1.2.2.2)) (cp_eq f3 f4 (fun _ _ => rfl)) (by rw [s2 16 (by omega), u2 16 (by decide), g5.2 16 (by omega), q16]) (by rw [s2 17 (by omega), u2 17 (by decide), g5.2 17 (by omega), q17])⟩
          · simp [upd]
          · simp [upd]
          · simp [upd, hw, ht]
          · simp [upd, hw, hf']
          · simp [upd]
          · simp [upd]
          · simp [upd]
          · simp [upd, nI_0]
          · simp [upd, nI_0]
          · simp [upd]
          · simp [upd]
          · simp [upd, g7]
          · simp [upd, nI_0]
          · simp [upd, nI_0]
      · rw [if_neg hf, if_neg hf]
        unfold f_X7_failed f_X8_fails
        exact ⟨_, _, r, _, q, rfl, rfl, Rel_fault hR _⟩
