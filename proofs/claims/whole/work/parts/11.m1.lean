/-! odds -/
def cntS (p : Nat → Bool) (k x : Nat) : Nat := if p k = true then x + 1 else x
theorem C_sets_loop {v : V1} {r : V2} {c m : Nat} {kd gy lo : Nat → Int32} (hv : v 2 = nI c) (hc : c ≤ 6) (h0 : r 0 = kd) (h2 : r 2 = gy) (h3 : r 3 = lo) (h5 : v 5 = nI m) (hm : m < 2 ^ c) (a1 : Int32) : ∀ (n k fu x : Nat), k + n = m + 1 → n < fu → f_X1_setsThatLeave_4 v r a1 fu (nI x) (nI k) = some (nI (iter (cntS (fun k => decide (k &&& m = k) && f_X7_has (CO c kd gy lo (nI (m - (m &&& k)))) a1)) k n x)) := by
  intro n
  have hm64 := p64 hc hm
  induction n with
  | zero =>
    intro k fu x hk hf
    obtain ⟨f', rfl⟩ : ∃ f', fu = f' + 1 := ⟨fu - 1, by omega⟩
    rw [f_X1_setsThatLeave_4_s, h5, if_pos (nI_lt (by omega) (by omega))]
    rfl
  | succ n ih =>
    intro k fu x hk hf
    obtain ⟨f', rfl⟩ : ∃ f', fu = f' + 1 := ⟨fu - 1, by omega⟩
    have hk64 : k < 64 := by omega
    rw [f_X1_setsThatLeave_4_s, h5, if_neg (nI_nlt (by omega) (by omega))]
    show _ = some (nI (iter _ (k + 1) n (cntS _ k x)))
    by_cases g1 : k &&& m = k
    · rw [if_pos ((alw hk64 hm64).mpr g1), andn' hm64 hk64, C_companyOf hv hc h0 h2 h3 (Nat.lt_of_le_of_lt (Nat.sub_le _ _) hm), Option.bind_some]
      by_cases g2 : f_X7_has (CO c kd gy lo (nI (m - (m &&& k)))) a1 = true
      · have e : cntS (fun k => decide (k &&& m = k) && f_X7_has (CO c kd gy lo (nI (m - (m &&& k)))) a1) k x = x + 1 := by
          unfold cntS; simp [g1, g2]
        rw [if_pos g2, e, nI_1, nI_1]
        exact ih (k + 1) f' (x + 1) (by omega) (by omega)
      · have e : cntS (fun k => decide (k &&& m = k) && f_X7_has (CO c kd gy lo (nI (m - (m &&& k)))) a1) k x = x := by
          unfold cntS; simp [g2]
        rw [if_neg g2, e, nI_1]
        exact ih (k + 1) f' x (by omega) (by omega)
    · have e : cntS (fun k => decide (k &&& m = k) && f_X7_has (CO c kd gy lo (nI (m - (m &&& k)))) a1) k x = x := by
        unfold cntS; simp [g1]
      rw [if_neg (fun z => g1 ((alw hk64 hm64).mp z)), e, nI_1]
      exact ih (k + 1) f' x (by omega) (by omega)
theorem M_odds_loop {w : V1} {q : V2} {c m : Nat} {kd gy lo : Nat → Int32} (hw : w 4 = nI c) (hc : c ≤ 6) (h4 : q 4 = kd) (h6 : q 6 = gy) (h7 : q 7 = lo) (h1 : ∀ j, ∃ z, z < 3 ∧ kd j = nI z) (h2 : ∀ j, ∃ z, z ≤ 9 ∧ gy j = nI z) (h5 : w 5 = nI m) (hm : m < 2 ^ c) (a1 a2 : Int32) : ∀ (n k fu x y : Nat), k + n = 2 ^ c → n < fu → f_X8_odds_40 w q a1 a2 fu (nI x) (nI y) (nI k) = (f_X8_inLeastTerms (nI (iter (cntS (fun k => decide (k &&& m = k) && f_X7_has (CO c kd gy lo (nI (m - (m &&& k)))) a1)) k n x)).toInt64 (nI (iter (cntS (fun k => decide (k &&& m = k))) k n y)).toInt64 a2).bind (fun y8 => some y8) := by
  intro n
  have hs : ∀ c, c ≤ 6 → (1 : Int32) <<< (nI c &&& 31) = nI (2 ^ c) := by decide
  have h64 : 2 ^ c ≤ 2 ^ 6 := Nat.pow_le_pow_right (by decide) hc
  have hm64 := p64 hc hm
  induction n with
  | zero =>
    intro k fu x y hk hf
    obtain ⟨f', rfl⟩ : ∃ f', fu = f' + 1 := ⟨fu - 1, by omega⟩
    rw [f_X8_odds_40_s, hw, hs c hc, if_pos (nI_le (by omega) (by omega))]
    rfl
  | succ n ih =>
    intro k fu x y hk hf
    obtain ⟨f', rfl⟩ : ∃ f', fu = f' + 1 := ⟨fu - 1, by omega⟩
    have hk64 : k < 64 := by omega
    rw [f_X8_odds_40_s, hw, hs c hc, if_neg (nI_ge (by omega) (by omega)), h5]
    show _ = (f_X8_inLeastTerms (nI (iter _ (k + 1) n (cntS _ k x))).toInt64 (nI (iter _ (k + 1) n (cntS _ k y))).toInt64 a2).bind _
    by_cases g1 : k &&& m = k
    · have ey : cntS (fun k => decide (k &&& m = k)) k y = y + 1 := by unfold cntS; simp [g1]
      rw [if_pos ((alw hk64 hm64).mpr g1), andn' hm64 hk64, M_companyOf hw hc h4 h6 h7 h1 h2 (Nat.lt_of_le_of_lt (Nat.sub_le _ _) hm), Option.bind_some, isOf8, ey]
      by_cases g2 : f_X7_has (CO c kd gy lo (nI (m - (m &&& k)))) a1 = true
      · have e : cntS (fun k => decide (k &&& m = k) && f_X7_has (CO c kd gy lo (nI (m - (m &&& k)))) a1) k x = x + 1 := by
          unfold cntS; simp [g1, g2]
        rw [if_pos g2, e, nI_1, nI_1, nI_1]
        exact ih (k + 1) f' (x + 1) (y + 1) (by omega) (by omega)
      · have e : cntS (fun k => decide (k &&& m = k) && f_X7_has (CO c kd gy lo (nI (m - (m &&& k)))) a1) k x = x := by
          unfold cntS; simp [g2]
        rw [if_neg g2, e, nI_1, nI_1, Int32.add_zero]
        exact ih (k + 1) f' x (y + 1) (by omega) (by omega)
    · have e : cntS (fun k => decide (k &&& m = k) && f_X7_has (CO c kd gy lo (nI (m - (m &&& k)))) a1) k x = x := by
        unfold cntS; simp [g1]
      have ey : cntS (fun k => decide (k &&& m = k)) k y = y := by unfold cntS; simp [g1]
      rw [if_neg (fun z => g1 ((alw hk64 hm64).mp z)), e, ey, nI_1]
      exact ih (k + 1) f' x y (by omega) (by omega)
theorem cnt_le {p g : Nat → Bool} : ∀ n, iter (cntS (fun k => p k && g k)) 0 n 0 ≤ iter (cntS p) 0 n 0
  | 0 => Nat.le_refl _
  | n + 1 => by
    have h := cnt_le (p := p) (g := g) n
    rw [iter_end, iter_end, Nat.zero_add]
    generalize iter (cntS fun k => p k && g k) 0 n 0 = A at h ⊢
    generalize iter (cntS p) 0 n 0 = B at h ⊢
    show (if (p n && g n) = true then A + 1 else A) ≤ (if p n = true then B + 1 else B)
    cases p n <;> cases g n <;> simp <;> omega
theorem cnt_cut {p : Nat → Bool} {M N : Nat} (hN : M < N) (h : ∀ k, M < k → k < N → p k = false) : iter (cntS p) 0 N 0 = iter (cntS p) 0 (M + 1) 0 := by
  obtain ⟨N', rfl⟩ : ∃ N', N = (M + 1) + N' := ⟨N - (M + 1), by omega⟩
  rw [iter_add (cntS p) (M + 1) N' 0 0, iter_id N' (0 + (M + 1))]
  intro j a h1 h2
  unfold cntS
  rw [h j (by omega) (by omega)]
  simp
theorem cnt_all : ∀ c : Fin 7, ∀ m : Fin 64, m.1 < 2 ^ c.1 → iter (cntS (fun k => decide (k &&& m.1 = k))) 0 (2 ^ c.1) 0 = 2 ^ pcn m.1 := by decide +kernel
theorem odds_ind (v : V1) (r : V2) (a1 a2 : Int32) : ∀ (fu : Nat) (x3 x4 x5 : Int32), f_X7_odds_64 v r a1 a2 fu x3 x4 x5 = f_X7_odds_64 (fun _ => 0) (fun _ _ => 0) 0 a2 fu x3 x4 x5 := by
  intro fu
  induction fu with
  | zero => intro x3 x4 x5; rfl
  | succ n ih =>
    intro x3 x4 x5
    rw [f_X7_odds_64_s, f_X7_odds_64_s, ih]
theorem odds_fin : ∀ p : Fin 7, ∀ u : Fin 65, u.1 ≤ 2 ^ p.1 → ∀ b : Fin 2, f_X7_odds_64 (fun _ => 0) (fun _ _ => 0) 0 (nI b) 80 (nI u) ((1 : Int32) <<< (nI p &&& 31)) 0 = f_X8_inLeastTerms (nI u).toInt64 (nI (2 ^ p.1)).toInt64 (nI b) ∧ (f_X8_inLeastTerms (nI u).toInt64 (nI (2 ^ p.1)).toInt64 (nI b)).isSome = true := by decide +kernel
theorem op22 : Op22 Rel := by
  rintro v r w q z0 z1 ⟨ht, hf, hS, c, d, k, m, t, kd, bk, gy, lo, sp, cn, vl, hG, ⟨c2, c3, c4, c5, c6, r0, r1, r2, r3, r4, r5, r6⟩, ⟨w4, w3, w2, w5, w13, q4, q5, q6, q7, q3, q16, q17⟩⟩
  unfold f_X7_odds f_X8_odds
  have hm := hG.2.2.2.2.1
  have hm64 := p64 hG.1 hm
  rcases art_cases c2 w4 hG.1 r q z0 with ⟨h1, h2⟩ | ⟨j, hj, rfl, h1, h2⟩
  · exact ⟨_, by rw [h1]; rfl, by rw [h2]; rfl⟩
  · have hj6 : j < 6 := by have := hG.1; omega
    rw [if_pos h1, if_pos h2, within8, isOf8, c5, w5]
    cases hb : f_X7_within z1 0 1 with
    | false => exact ⟨_, rfl, rfl⟩
    | true =>
      obtain ⟨b, hb2, rfl⟩ := within_nI (M := 1) (by decide) hb
      cases hb3 : f_X7_has (nI m) (nI j) with
      | false => exact ⟨_, rfl, rfl⟩
      | true =>
        rw [if_pos rfl, if_pos rfl, if_pos rfl, if_pos rfl, pcn_eq hm64]
        unfold f_X1_setsThatLeave
        have h64 : 2 ^ c ≤ 2 ^ 6 := Nat.pow_le_pow_right (by decide) hG.1
        have e1 := C_sets_loop c2 hG.1 r0 r2 r3 c5 hm (nI j) (m + 1) 0 80 0 (by omega) (by omega)
        have e2 := M_odds_loop w4 hG.1 q4 q6 q7 hG.2.2.2.2.2.2.1 hG.2.2.2.2.2.2.2.2.1 w5 hm (nI j) (nI b) (2 ^ c) 0 80 0 0 (by omega) (by omega)
        have e3 := cnt_cut (p := fun k => decide (k &&& m = k) && f_X7_has (CO c kd gy lo (nI (m - (m &&& k)))) (nI j)) hm (fun k hk _ => by
          have : ¬ k &&& m = k := fun z => by have := and_sub_le z; omega
          simp [this])
        have e4 := cnt_le (p := fun k => decide (k &&& m = k)) (g := fun k => f_X7_has (CO c kd gy lo (nI (m - (m &&& k)))) (nI j)) (2 ^ c)
        have e5 := cnt_all ⟨c, by have := hG.1; omega⟩ ⟨m, hm64⟩ hm
        have hp := pcn_le hm64
        have hp64 : 2 ^ pcn m ≤ 2 ^ 6 := Nat.pow_le_pow_right (by decide) hp
        dsimp only at e5
        rw [e5] at e2 e4
        rw [← e3] at e1
        generalize iter (cntS (fun k => decide (k &&& m = k) && f_X7_has (CO c kd gy lo (nI (m - (m &&& k)))) (nI j))) 0 (2 ^ c) 0 = U at e1 e2 e4
        obtain ⟨f1, f2⟩ := odds_fin ⟨pcn m, by omega⟩ ⟨U, by omega⟩ e4 ⟨b, by omega⟩
        dsimp only at f1 f2
        rw [nI_0] at e1 e2
        rw [e1, e2, Option.bind_some, odds_ind, f1]
        cases hx : f_X8_inLeastTerms (nI U).toInt64 (nI (2 ^ pcn m)).toInt64 (nI b) with
        | none => rw [hx] at f2; cases f2
        | some y => exact ⟨y, rfl, rfl⟩
