/-! sheets -/
theorem fa_upd_twice' (f : Nat → Int32) (i : Nat) (x y : Int32) : upd (upd f i x) i y = upd f i y := by
  funext j
  unfold upd
  by_cases h : j = i <;> simp [h]
theorem cl4 {j : Nat} (h : j < 4) : (nI j).toNatClampNeg = j := nI_clamp (by omega)
theorem in4 {j : Nat} (h : j < 4) : inR (nI j) 4 = true := inR_nI h (by decide)
theorem nIm1 {a : Nat} (h : a < 2 ^ 31) : ¬ nI a = -1 := by
  intro e
  have h1 := congrArg Int32.toInt e
  rw [nI_toInt h] at h1
  have h2 : (-1 : Int32).toInt = -1 := rfl
  omega
theorem nIm9 {a : Nat} (h : a < 2 ^ 31) : ¬ nI a = -9 := by
  intro e
  have h1 := congrArg Int32.toInt e
  rw [nI_toInt h] at h1
  have h2 : (-9 : Int32).toInt = -9 := rfl
  omega
theorem take_eq {r q : V2} (hS : SH r q) (v w : V1) {j la : Nat} (hj : j < 4) (hla : la < 3) (i n : Int32) : f_X8_against w q (nI j) (nI la) i n = some (f_X4_faultOfTaking v r j (nI la) i n) := by
  unfold f_X8_against f_X4_faultOfTaking f_X4_hasNothing f_X4_holds
  simp only [in4 hj, if_true, cl4 hj]
  rcases hS j hj with ⟨h1, h2⟩ | ⟨la', N, h0, hN, h1, h2, h3, h4, h5⟩
  · simp [h1, h2]
  · rw [h1, h2, h3, h4]
    have hm9 : ¬ nI la' = -9 := nIm9 (by omega)
    have hm1 : ¬ nI la' = -1 := nIm1 (by omega)
    rw [if_neg hm9, if_neg hm9, if_neg hm1, if_neg Bool.false_ne_true]
    by_cases h : nI la' = nI la
    · rw [if_pos h, if_pos h]
      by_cases hn : 0 ≤ n
      · rw [if_pos hn, if_pos hn]
        have hn' : ¬ n < 0 := fun z => (i32_lt_iff.mp z) hn
        by_cases hi : i < 0
        · simp [hi]
        · by_cases hi2 : nI N < i
          · simp [hi, hi2]
          · by_cases hi3 : nI N - i < n
            · simp [hi, hi2, hi3, hn', i32_lt_iff.mp hi3]
            · have h6 : n ≤ nI N - i := i32_le_of_nlt hi3
              simp [hi, hi2, hi3, hn', h6]
      · rw [if_neg hn, if_neg hn]
    · rw [if_neg h, if_neg h]
theorem take_0 {r q : V2} (hS : SH r q) (v : V1) {j la : Nat} (hj : j < 4) {i n : Int32} (h : f_X4_faultOfTaking v r j (nI la) i n = 0) : ∃ N a b : Nat, N ≤ 60 ∧ r 10 j = nI la ∧ q 0 j = nI la ∧ r 11 j = nI N ∧ q 1 j = nI N ∧ i = nI a ∧ n = nI b ∧ a + b ≤ N ∧ ∀ x, x < N → r (12 + j) x = q 2 (60 * j + x) := by
  unfold f_X4_faultOfTaking f_X4_hasNothing f_X4_holds at h
  rcases hS j hj with ⟨h1, h2⟩ | ⟨la', N, h0, hN, h1, h2, h3, h4, h5⟩
  · rw [h1, if_pos rfl, if_pos rfl] at h; exact absurd h (by decide)
  · rw [h1, h3, if_neg (nIm1 (by omega)), if_neg Bool.false_ne_true] at h
    by_cases e : nI la' = nI la
    · rw [if_pos e] at h
      by_cases hn : 0 ≤ n
      · rw [if_pos hn] at h
        have hn' : ¬ n < 0 := fun z => (i32_lt_iff.mp z) hn
        by_cases hi : i < 0
        · rw [if_pos hi] at h; exact absurd h (by decide)
        · rw [if_neg hi] at h
          by_cases hi2 : nI N < i
          · rw [if_pos hi2] at h; exact absurd h (by decide)
          · rw [if_neg hi2, if_neg hn'] at h
            by_cases hi3 : nI N - i < n
            · rw [if_pos hi3] at h; exact absurd h (by decide)
            · obtain ⟨a, ha, rfl⟩ := nI_of2 (n := N) (nI_toInt (by omega)) hi (i32_le_of_nlt hi2)
              rw [pk_sub ha] at hi3
              obtain ⟨b, hb, rfl⟩ := nI_of2 (n := N - a) (nI_toInt (by omega)) hn' (i32_le_of_nlt hi3)
              exact ⟨N, a, b, hN, by rw [h1, e], by rw [h2, e], h3, h4, rfl, rfl, by omega, h5⟩
      · rw [if_neg hn] at h; exact absurd h (by decide)
    · rw [if_neg e] at h; exact absurd h (by decide)
theorem at_nat {r : V2} (v : V1) {j N a : Nat} (h3 : r 11 j = nI N) (hN : N ≤ 60) (ha : a < N) : f_X4_at v r j (nI a) = some (r (12 + j) a) := by
  unfold f_X4_at
  rw [if_neg (nI_pos (by omega)), h3, if_neg (nI_ge ha (by omega)), if_pos (inR_nI (by omega) (by decide)), nI_clamp (by omega)]
theorem sh_of {r q r1 q1 : V2} (hS : SH r q) {j : Nat} (hj : j < 4) (h1 : ∀ i, i ≠ 10 → i ≠ 11 → i ≠ 12 + j → 10 ≤ i → r1 i = r i) (h10 : ∀ i, i ≠ j → r1 10 i = r 10 i) (h11 : ∀ i, i ≠ j → r1 11 i = r 11 i) (g0 : ∀ i, i ≠ j → q1 0 i = q 0 i) (g1 : ∀ i, i ≠ j → q1 1 i = q 1 i) (g2 : ∀ i, (i < 60 * j ∨ 60 * j + 60 ≤ i) → q1 2 i = q 2 i)
    (hk : (r1 10 j = -1 ∧ q1 0 j = -9) ∨ ∃ la n : Nat, la < 3 ∧ n ≤ 60 ∧ r1 10 j = nI la ∧ q1 0 j = nI la ∧ r1 11 j = nI n ∧ q1 1 j = nI n ∧ ∀ i, i < n → r1 (12 + j) i = q1 2 (60 * j + i)) : SH r1 q1 := by
  intro i hi
  by_cases e : i = j
  · subst e; exact hk
  · rcases hS i hi with ⟨a1, a2⟩ | ⟨la, n, b0, b1, b2, b3, b4, b5, b6⟩
    · left; rw [h10 i e, g0 i e]; exact ⟨a1, a2⟩
    · right
      refine ⟨la, n, b0, b1, by rw [h10 i e]; exact b2, by rw [g0 i e]; exact b3, by rw [h11 i e]; exact b4, by rw [g1 i e]; exact b5, fun x hx => ?_⟩
      rw [h1 (12 + i) (by omega) (by omega) (by omega) (by omega), g2 (60 * i + x) (by omega)]
      exact b6 x hx
theorem Rel_sh {v : V1} {r : V2} {w : V1} {q : V2} (h : Rel v r w q) {r1 q1 : V2} (hS : SH r1 q1) (h1 : ∀ i, i < 7 → r1 i = r i) (h2 : ∀ i, 3 ≤ i → q1 i = q i) : Rel v r1 w q1 := by
  obtain ⟨ht, hf, -, c, d, k, m, t, kd, bk, gy, lo, sp, cn, vl, hG, ⟨c2, c3, c4, c5, c6, r0, r1', r2, r3, r4, r5, r6⟩, ⟨w4, w3, w2, w5, w13, q4, q5, q6, q7, q3, q16, q17⟩⟩ := h
  exact Rel_of c d k m t kd bk gy lo sp cn vl ht hf hS hG c2 c3 c4 c5 c6 (by rw [h1 0 (by omega), r0]) (by rw [h1 1 (by omega), r1']) (by rw [h1 2 (by omega), r2]) (by rw [h1 3 (by omega), r3]) (by rw [h1 4 (by omega), r4]) (by rw [h1 5 (by omega), r5]) (by rw [h1 6 (by omega), r6]) w4 w3 w2 w5 w13 (by rw [h2 4 (by omega), q4]) (by rw [h2 5 (by omega), q5]) (by rw [h2 6 (by omega), q6]) (by rw [h2 7 (by omega), q7]) (by rw [h2 3 (by omega), q3]) (by rw [h2 16 (by omega), q16]) (by rw [h2 17 (by omega), q17])
theorem op24 : Op24 Rel := by
  intro v r w q z0 hR
  have hS := hR.2.2.1
  unfold f_X7_lose f_X8_lose
  rw [isSheet8]
  cases hb : f_X7_isSheet z0 with
  | false => exact ⟨-1, v, r, w, q, rfl, rfl, hR⟩
  | true =>
    obtain ⟨j, hj, rfl⟩ := isSheet_nI hb
    unfold f_X4_hasNothing f_X4_clear
    simp only [if_true, in4 hj, cl4 hj, Option.bind_some]
    have hq : ∀ i, 3 ≤ i → va_up q 0 (upd (q 0) j (-9)) i = q i := fun i hi => va_up_ne _ _ (by omega)
    rcases hS j hj with ⟨h1, h2⟩ | ⟨la', N, h0, hN, h1, h2, h3, h4, h5⟩
    · rw [h1, h2, if_pos rfl, if_pos rfl, if_pos rfl]
      refine ⟨0, v, r, w, _, rfl, rfl, Rel_sh hR (sh_of hS hj (fun i _ _ _ _ => rfl) (fun i _ => rfl) (fun i _ => rfl) (fun i e => ?_) (fun i e => ?_) (fun i _ => ?_) (Or.inl ⟨h1, ?_⟩)) (fun _ _ => rfl) hq⟩
      · rw [va_up_self, pk_un e]
      · rw [va_up_ne _ _ (by decide)]
      · rw [va_up_ne _ _ (by decide)]
      · rw [va_up_self, pk_us]
    · rw [h1, h2, if_neg (nIm1 (by omega)), if_neg Bool.false_ne_true, if_neg (nIm9 (by omega))]
      refine ⟨1, v, _, w, _, rfl, rfl, Rel_sh hR (sh_of hS hj (fun i e1 e2 _ _ => ?_) (fun i e => ?_) (fun i e => ?_) (fun i e => ?_) (fun i e => ?_) (fun i _ => ?_) (Or.inl ⟨?_, ?_⟩)) (fun i hi => ?_) hq⟩
      · rw [va_up_ne _ _ e2, va_up_ne _ _ e1]
      · rw [va_up_ne _ _ (by decide), va_up_self, pk_un e]
      · rw [va_up_self, pk_un e, va_up_ne _ _ (by decide)]
      · rw [va_up_self, pk_un e]
      · rw [va_up_ne _ _ (by decide)]
      · rw [va_up_ne _ _ (by decide)]
      · rw [va_up_ne _ _ (by decide), va_up_self, pk_us]
      · rw [va_up_self, pk_us]
      · rw [va_up_ne _ _ (by omega), va_up_ne _ _ (by omega)]
/-- a cell's index on both sides -/
theorem ix60 {j a : Nat} (hj : j < 4) (ha : a < 60) : inR ((60 * nI j) + nI a) 240 = true ∧ ((60 * nI j) + nI a).toNatClampNeg = 60 * j + a := by
  have e : (60 : Int32) * nI j + nI a = nI (60 * j + a) := by
    show nI 60 * nI j + nI a = _
    rw [pk_mul, nI_add]
  rw [e]
  exact ⟨inR_nI (by omega) (by decide), nI_clamp (by omega)⟩
theorem wi_size {N : Nat} (hN : N ≤ 60) (i : Int32) : f_X7_within i 0 (nI N - 1) = true ↔ ∃ a, a < N ∧ i = nI a := by
  rcases Nat.eq_zero_or_pos N with h0 | h0
  · subst h0
    constructor
    · intro h
      obtain ⟨h1, h2⟩ := within_t h
      exfalso
      rw [Int32.lt_iff_toInt_lt] at h1 h2
      have e1 : (nI 0 - 1).toInt = -1 := rfl
      have e0 : (0 : Int32).toInt = 0 := rfl
      omega
    · rintro ⟨a, ha, -⟩; omega
  · have e : nI N - 1 = nI (N - 1) := pk_sub (a := N) (b := 1) (by omega)
    rw [e]
    constructor
    · intro h
      obtain ⟨z, hz, e⟩ := within_nI (M := N - 1) (by omega) h
      exact ⟨z, by omega, e⟩
    · rintro ⟨a, ha, rfl⟩
      unfold f_X7_within
      rw [if_neg (nI_pos (by omega)), if_neg (nI_nlt (by omega) (by omega))]
theorem ho_size {N : Nat} (hN : N ≤ 60) {r : V2} (v : V1) {j : Nat} (h3 : r 11 j = nI N) (i : Int32) : f_X4_holds v r j i 1 = f_X7_within i 0 (nI N - 1) := by
  unfold f_X4_holds
  rw [h3]
  have h10 : ¬ (1 : Int32) < 0 := by decide
  rw [if_neg h10]
  by_cases hi : i < 0
  · rw [if_pos hi]; unfold f_X7_within; rw [if_pos hi]
  · rw [if_neg hi]
    by_cases hi2 : nI N < i
    · rw [if_pos hi2]
      cases hw : f_X7_within i 0 (nI N - 1) with
      | false => rfl
      | true =>
        obtain ⟨a, ha, rfl⟩ := (wi_size hN i).mp hw
        exact absurd hi2 (nI_nlt (by omega) (by omega))
    · obtain ⟨a, ha, rfl⟩ := nI_of2 (n := N) (nI_toInt (by omega)) hi (i32_le_of_nlt hi2)
      rw [if_neg hi2, pk_sub ha]
      rcases Nat.lt_or_ge a N with h | h
      · have h1 : ¬ nI (N - a) < 1 := nI_nlt (b := 1) (by omega) (by omega)
        rw [if_neg h1]
        exact ((wi_size hN (nI a)).mpr ⟨a, h, rfl⟩).symm
      · have e : N - a = 0 := by omega
        rw [e]
        have h1 : nI 0 < 1 := by decide
        rw [if_pos h1]
        cases hw : f_X7_within (nI a) 0 (nI N - 1) with
        | false => rfl
        | true =>
          obtain ⟨a', ha', e'⟩ := (wi_size hN (nI a)).mp hw
          have := (nI_eq (a := a) (b := a') (by omega) (by omega)).mp e'
          omega
theorem op26 : Op26 Rel := by
  intro v r w q z0 z1 z2 hR0
  have hR := Rel_fault hR0 0
  have hS := hR.2.2.1
  unfold f_X7_cell f_X8_cell
  rw [isSheet8, isSort8, within8]
  cases hb : f_X7_isSheet z0 with
  | false => exact ⟨_, _, r, _, q, rfl, rfl, hR⟩
  | true =>
    obtain ⟨j, hj, rfl⟩ := isSheet_nI hb
    cases hb2 : f_X7_isLane z2 with
    | false => exact ⟨_, _, r, _, q, rfl, rfl, hR⟩
    | true =>
      obtain ⟨la, hla, rfl⟩ := isLane_nI hb2
      unfold f_X8_lost
      simp only [if_true, in4 hj, cl4 hj, Option.bind_some, pk_us]
      have hRf : ∀ x, Rel (upd (upd v 1 0) 1 x) r (upd (upd w 0 0) 0 x) q := fun x => Rel_fault hR x
      have hff : ∀ x, upd (upd v 1 0) 1 x = upd v 1 x := fun x => fa_upd_twice' v 1 0 x
      unfold f_X4_faultOfTaking f_X4_hasNothing
      rcases hS j hj with ⟨h1, h2⟩ | ⟨la', N, h0, hN, h1, h2, h3, h4, h5⟩
      · rw [h1, h2, if_pos rfl, if_pos rfl]
        exact ⟨_, _, _, _, _, rfl, rfl, hRf 1⟩
      · rw [h1, h2, if_neg (nIm1 (by omega)), if_neg Bool.false_ne_true, if_neg (nIm9 (by omega)), if_neg (nIm9 (by omega)), h4]
        by_cases e : nI la' = nI la
        · rw [if_pos e, if_pos e, if_pos (show (0 : Int32) ≤ 1 by decide), ho_size hN _ h3]
          cases hw : f_X7_within z1 0 (nI N - 1) with
          | false => exact ⟨_, _, _, _, _, rfl, rfl, hRf 3⟩
          | true =>
            obtain ⟨a, ha, rfl⟩ := (wi_size hN z1).mp hw
            obtain ⟨e1, e2⟩ := ix60 hj (a := a) (by omega)
            simp only [if_true, at_nat _ h3 hN ha, Option.bind_some, e1, e2, h5 a ha]
            refine ⟨_, _, _, _, _, rfl, rfl, ?_⟩
            rw [fa_upd_twice']
            exact hR
        · rw [if_neg e, if_neg e]
          exact ⟨_, _, _, _, _, rfl, rfl, hRf 2⟩
