/-! the text of a city: class and reference, cell by cell -/
def TX (j a n : Nat) (cd : Nat → Int32) (r q : V2) : Prop := n ≤ 60 ∧ 60 * j + a + n ≤ 240 ∧ a ≤ 60 ∧ (∀ v p, p < n → f_X4_at v r j (nI (a + p)) = some (cd p)) ∧ (∀ p, p < n → q 2 (60 * j + a + p) = cd p)
theorem TX.c {j a n : Nat} {cd : Nat → Int32} {r q r' q' : V2} (h : TX j a n cd r q) (h1 : ∀ i, 10 ≤ i → r' i = r i) (h2 : q' 2 = q 2) : TX j a n cd r' q' := by
  refine ⟨h.1, h.2.1, h.2.2.1, fun v p hp => ?_, fun p hp => by rw [h2]; exact h.2.2.2.2 p hp⟩
  have e : f_X4_at v r' j (nI (a + p)) = f_X4_at v r j (nI (a + p)) := by
    unfold f_X4_at
    rw [h1 11 (by omega), h1 (12 + j) (by omega)]
  rw [e]
  exact h.2.2.2.1 v p hp
def CF (v : V1) (r : V2) (j a n R p : Nat) : Option Int32 := f_X5_firstFault_10 v r j (nI a) (nI n) (80 - p) (nI R) (nI p)
theorem CF_go {v : V1} {r q : V2} {j a n R p : Nat} {cd : Nat → Int32} (hT : TX j a n cd r q) (hp : p < n) (h : f_X5_goesOn (nI p) (nI R) (cd p) = true) : CF v r j a n R p = CF v r j a n R (p + 1) := by
  have hn := hT.1
  unfold CF
  obtain ⟨f, h1, h2⟩ : ∃ f, 80 - p = f + 1 ∧ 80 - (p + 1) = f := ⟨80 - (p + 1), by omega, rfl⟩
  rw [h1, h2, f_X5_firstFault_10_s, if_neg (nI_ge hp (by omega)), nI_add, hT.2.2.2.1 v p hp, Option.bind_some, if_pos h, nI_1]
theorem CF_stop {v : V1} {r q : V2} {j a n R p : Nat} {cd : Nat → Int32} (hT : TX j a n cd r q) (hp : p < n) (h : f_X5_goesOn (nI p) (nI R) (cd p) = false) : CF v r j a n R p = some (nI p) := by
  have hn := hT.1
  unfold CF
  obtain ⟨f, h1⟩ : ∃ f, 80 - p = f + 1 := ⟨80 - (p + 1), by omega⟩
  rw [h1, f_X5_firstFault_10_s, if_neg (nI_ge hp (by omega)), nI_add, hT.2.2.2.1 v p hp, Option.bind_some, h, if_neg Bool.false_ne_true]
theorem fe : ∀ n : Fin 61, ∀ R : Fin 5, (if ((nI n - 4) - nI R) ≤ 0 then some (nI n) else (if (((nI n - 4) - nI R) - ((nI n - 4) - nI R) / 6 * 6) = 0 then some ((-9)) else some (nI n))) = (if 4 + R.1 < n.1 ∧ (n.1 - 4 - R.1) % 6 = 0 then some ((-9)) else some (nI n) : Option Int32) := by decide +kernel
theorem CF_end {v : V1} {r : V2} {j a n R : Nat} (hn : n ≤ 60) (hR : R ≤ 4) : CF v r j a n R n = (if 4 + R < n ∧ (n - 4 - R) % 6 = 0 then some ((-9)) else some (nI n) : Option Int32) := by
  unfold CF
  obtain ⟨f, h1⟩ : ∃ f, 80 - n = f + 1 := ⟨80 - (n + 1), by omega⟩
  rw [h1, f_X5_firstFault_10_s, if_pos (nI_le (Nat.le_refl n) (by omega))]
  exact fe ⟨n, by omega⟩ ⟨R, by omega⟩
theorem gidx : ∀ R : Fin 5, ∀ b : Fin 7, ∀ s : Fin 6, 0 < R.1 → ((4 : Int32) ≤ nI (4 + R.1 + 6 * b.1 + s.1)) ∧ (4 + nI R.1 ≤ nI (4 + R.1 + 6 * b.1 + s.1)) ∧ (¬ nI R.1 = 0) ∧ (((nI (4 + R.1 + 6 * b.1 + s.1) - 4) - nI R.1 < 36) ↔ b.1 < 6) ∧ ((nI (4 + R.1 + 6 * b.1 + s.1) - 4) - nI R.1) - ((nI (4 + R.1 + 6 * b.1 + s.1) - 4) - nI R.1) / 6 * 6 = nI s.1 := by decide +kernel
theorem gart {R b s : Nat} (hR0 : 0 < R) (hR : R ≤ 4) (hb : b < 6) (hs : s < 6) (code : Int32) : f_X5_goesOn (nI (4 + R + 6 * b + s)) (nI R) code = f_X5_articleGoesOn (nI s) code := by
  obtain ⟨g1, g2, g3, g4, g5⟩ := gidx ⟨R, by omega⟩ ⟨b, by omega⟩ ⟨s, hs⟩ hR0
  dsimp only at g1 g2 g3 g4 g5
  unfold f_X5_goesOn
  rw [if_pos g1, if_pos g2, if_neg g3, if_pos (g4.mpr hb), g5]
theorem gover {R : Nat} (hR0 : 0 < R) (hR : R ≤ 4) (code : Int32) : f_X5_goesOn (nI (4 + R + 6 * 6)) (nI R) code = false := by
  obtain ⟨g1, g2, g3, g4, g5⟩ := gidx ⟨R, by omega⟩ ⟨6, by omega⟩ ⟨0, by omega⟩ hR0
  dsimp only at g1 g2 g3 g4 g5
  rw [Nat.add_zero] at g1 g2 g4
  unfold f_X5_goesOn
  rw [if_pos g1, if_pos g2, if_neg g3, if_neg (fun z => by have := g4.mp z; omega)]
theorem groomI : ∀ R : Fin 5, ∀ i : Fin 4, i.1 < R.1 → ((4 : Int32) ≤ nI (4 + i.1)) ∧ ¬ (4 + nI R.1 ≤ nI (4 + i.1)) := by decide +kernel
theorem groom {R i : Nat} (hi : i < R) (hR : R ≤ 4) (code : Int32) : f_X5_goesOn (nI (4 + i)) (nI R) code = true := by
  obtain ⟨g1, g2⟩ := groomI ⟨R, by omega⟩ ⟨i, by omega⟩ hi
  dsimp only at g1 g2
  unfold f_X5_goesOn
  rw [if_pos g1, if_neg g2]
theorem gzero (code : Int32) : f_X5_goesOn (nI 4) (nI 0) code = false := by
  unfold f_X5_goesOn
  rw [if_pos (show (4 : Int32) ≤ nI 4 by decide), if_pos (show 4 + nI 0 ≤ nI 4 by decide), if_pos (show nI 0 = 0 by decide)]
theorem ghead {p : Nat} (hp : p < 4) (R code : Int32) : f_X5_goesOn (nI p) R code = f_X5_headGoesOn (nI p) code := by
  unfold f_X5_goesOn
  rw [if_neg (show ¬ (4 : Int32) ≤ nI p from nI_ge (a := p) (b := 4) hp (by decide))]
theorem sign_t {w : V1} {q r : V2} {j a n p : Nat} {cd : Nat → Int32} {sg : Int32} (hT : TX j a n cd r q) (hw : w 6 = nI (60 * j + a + p)) (hp : p < n) (h : cd p = sg) : f_X8_isSign w q (nI (60 * j + a + n)) sg = some (true, (upd w 6 (nI (60 * j + a + (p + 1))), q)) := by
  have h1 := hT.2.1
  unfold f_X8_isSign
  rw [hw, if_neg (nI_ge (by omega) (by omega)), if_pos (inR_nI (by omega) (by decide)), nI_clamp (by omega), hT.2.2.2.2 p hp, if_pos h, nI_1, Nat.add_assoc]
theorem sign_f {w : V1} {q r : V2} {j a n p : Nat} {cd : Nat → Int32} {sg : Int32} (hT : TX j a n cd r q) (hw : w 6 = nI (60 * j + a + p)) (hp : p ≤ n) (h : p < n → ¬ cd p = sg) : f_X8_isSign w q (nI (60 * j + a + n)) sg = some (false, (w, q)) := by
  have h1 := hT.2.1
  unfold f_X8_isSign
  rw [hw]
  rcases Nat.eq_or_lt_of_le hp with e | e
  · subst e
    rw [if_pos (nI_le (Nat.le_refl _) (by omega))]
  · rw [if_neg (nI_ge (by omega) (by omega)), if_pos (inR_nI (by omega) (by decide)), nI_clamp (by omega), hT.2.2.2.2 p e, if_neg (h e)]
theorem dig_t {w : V1} {q r : V2} {j a n p lo hi : Nat} {cd : Nat → Int32} (hT : TX j a n cd r q) (hw : w 6 = nI (60 * j + a + p)) (hp : p < n) (h : f_X5_isDigit (cd p) (nI lo) (nI hi) = true) : f_X8_digit w q (nI (60 * j + a + n)) (nI lo) (nI hi) = some (cd p - 48, (upd w 6 (nI (60 * j + a + (p + 1))), q)) := by
  have h1 := hT.2.1
  have e : nI (60 * j + a + (p + 1)) - 1 = nI (60 * j + a + p) := by rw [← Nat.add_assoc, nI_pred]
  have hi := inR_nI (k := 60 * j + a + p) (N := 240) (by omega) (by decide)
  unfold f_X8_digit
  rw [within8]
  unfold f_X5_isDigit at h
  rw [hw, if_neg (nI_ge (by omega) (by omega)), if_pos hi, nI_clamp (by omega), hT.2.2.2.2 p hp, if_pos h, pk_us, nI_1, Nat.add_assoc (60 * j + a) p 1, e, if_pos hi, nI_clamp (by omega), hT.2.2.2.2 p hp]
theorem dig_f {w : V1} {q r : V2} {j a n p lo hi : Nat} {cd : Nat → Int32} (hT : TX j a n cd r q) (hw : w 6 = nI (60 * j + a + p)) (hp : p ≤ n) (h : p < n → f_X5_isDigit (cd p) (nI lo) (nI hi) = false) : f_X8_digit w q (nI (60 * j + a + n)) (nI lo) (nI hi) = some (-9, (w, q)) := by
  have h1 := hT.2.1
  unfold f_X8_digit
  rw [within8]
  rw [hw]
  rcases Nat.eq_or_lt_of_le hp with e | e
  · subst e
    rw [if_pos (nI_le (Nat.le_refl _) (by omega))]
  · have h2 := h e
    unfold f_X5_isDigit at h2
    rw [if_neg (nI_ge (by omega) (by omega)), if_pos (inR_nI (by omega) (by decide)), nI_clamp (by omega), hT.2.2.2.2 p e, h2, if_neg Bool.false_ne_true]
theorem dig_nat {code : Int32} {lo hi : Nat} (hl : lo ≤ 9) (hh : hi ≤ 9) (h : f_X5_isDigit code (nI lo) (nI hi) = true) : ∃ z, z ≤ hi ∧ code - 48 = nI z := by
  unfold f_X5_isDigit at h
  obtain ⟨h1, h2⟩ := within_t h
  have e1 : (48 : Int32) + nI lo = nI (48 + lo) := nI_add 48 lo
  have e2 : (48 : Int32) + nI hi = nI (48 + hi) := nI_add 48 hi
  rw [e1] at h1
  rw [e2] at h2
  have h0 : ¬ code < 0 := by
    intro z
    apply h1
    rw [Int32.lt_iff_toInt_lt] at z ⊢
    rw [nI_toInt (by omega)]
    have e0 : (0 : Int32).toInt = 0 := rfl
    omega
  obtain ⟨y, hy, rfl⟩ := nI_of2 (n := 48 + hi) (nI_toInt (by omega)) h0 (i32_le_of_nlt h2)
  have h3 : 48 + lo ≤ y := by
    rcases Nat.lt_or_ge y (48 + lo) with h | h
    · exact absurd (nI_lt h (by omega)) h1
    · exact h
  exact ⟨y - 48, by omega, pk_sub (a := y) (b := 48) (by omega)⟩
/-- how many rooms the class sees -/
theorem C_rooms_loop {v : V1} {r q : V2} {j a n most : Nat} {cd : Nat → Int32} (hT : TX j a n cd r q) (hm4 : most ≤ 4) (hm : 4 + most ≤ n) : ∀ (k i fu : Nat), i + k = most → k < fu → ∃ R, f_X5_roomsIn_11 v r j (nI a) (nI n) fu (nI most) (nI i) = some (nI R) ∧ i ≤ R ∧ R ≤ most ∧ (∀ x, i ≤ x → x < R → f_X5_isDigit (cd (4 + x)) 1 9 = true) ∧ (R < most → f_X5_isDigit (cd (4 + R)) 1 9 = false) := by
  intro k
  have hn := hT.1
  induction k with
  | zero =>
    intro i fu hi hf
    obtain ⟨f', rfl⟩ : ∃ f', fu = f' + 1 := ⟨fu - 1, by omega⟩
    have e : i = most := by omega
    subst e
    refine ⟨i, ?_, Nat.le_refl _, Nat.le_refl _, fun x h1 h2 => by omega, fun h => by omega⟩
    rw [f_X5_roomsIn_11_s, if_pos (nI_le (Nat.le_refl _) (by omega))]
    rcases Nat.eq_zero_or_pos i with h | h
    · subst h; rfl
    · rw [if_pos (show (0 : Int32) < nI i from nI_lt (a := 0) h (by omega))]
  | succ k ih =>
    intro i fu hi hf
    obtain ⟨f', rfl⟩ : ∃ f', fu = f' + 1 := ⟨fu - 1, by omega⟩
    have e : nI a + 4 + nI i = nI (a + (4 + i)) := by
      have e1 : nI a + 4 = nI (a + 4) := nI_add a 4
      rw [e1, nI_add, Nat.add_assoc]
    rw [f_X5_roomsIn_11_s, if_neg (nI_ge (by omega) (by omega)), e, hT.2.2.2.1 v (4 + i) (by omega), Option.bind_some]
    cases hd : f_X5_isDigit (cd (4 + i)) 1 9 with
    | true =>
      rw [if_pos rfl, nI_1]
      obtain ⟨R, e1, e2, e3, e4, e5⟩ := ih (i + 1) f' (by omega) (by omega)
      refine ⟨R, e1, by omega, e3, fun x h1 h2 => ?_, e5⟩
      rcases Nat.eq_or_lt_of_le h1 with h | h
      · subst h; exact hd
      · exact e4 x h h2
    | false =>
      rw [if_neg Bool.false_ne_true]
      exact ⟨i, rfl, Nat.le_refl _, by omega, fun x h1 h2 => by omega, fun _ => hd⟩
theorem rmost : ∀ n : Fin 61, 4 ≤ n.1 → (if nI n.1 - 4 < 4 then nI n.1 - 4 else 4) = nI (min 4 (n.1 - 4)) := by decide +kernel
theorem rless : ∀ n : Fin 4, (if nI n.1 - 4 < 4 then nI n.1 - 4 else 4) ≤ 0 ∧ (if 0 < (if nI n.1 - 4 < 4 then nI n.1 - 4 else 4) then (if nI n.1 - 4 < 4 then nI n.1 - 4 else 4) else 0) = 0 := by decide +kernel
theorem C_rooms {v : V1} {r q : V2} {j a n : Nat} {cd : Nat → Int32} (hT : TX j a n cd r q) : ∃ R, f_X5_roomsIn v r j (nI a) (nI n) = some (nI R) ∧ R ≤ 4 ∧ (∀ x, x < R → 4 + x < n ∧ f_X5_isDigit (cd (4 + x)) 1 9 = true) ∧ (R < 4 → 4 + R < n → f_X5_isDigit (cd (4 + R)) 1 9 = false) := by
  have hn := hT.1
  unfold f_X5_roomsIn
  rcases Nat.lt_or_ge n 4 with h | h
  · obtain ⟨g1, g2⟩ := rless ⟨n, h⟩
    dsimp only at g1 g2
    refine ⟨0, ?_, by omega, fun x hx => by omega, fun _ hx => by omega⟩
    rw [show (80 : Nat) = 79 + 1 from rfl, f_X5_roomsIn_11_s, if_pos g1, g2]
    rfl
  · have e := rmost ⟨n, by omega⟩ h
    dsimp only at e
    rw [e]
    obtain ⟨R, e1, e2, e3, e4, e5⟩ := C_rooms_loop (v := v) (most := min 4 (n - 4)) hT (Nat.min_le_left _ _) (by omega) (min 4 (n - 4)) 0 80 (by omega) (by omega)
    rw [nI_0] at e1
    exact ⟨R, e1, by omega, fun x hx => ⟨by omega, e4 x (by omega) hx⟩, fun h1 h2 => e5 (by omega)⟩
theorem M_rooms {r q : V2} {j a n R : Nat} {cd : Nat → Int32} (hT : TX j a n cd r q) (hn4 : 4 ≤ n) (hR : R ≤ 4) (hd : ∀ x, x < R → 4 + x < n ∧ f_X5_isDigit (cd (4 + x)) 1 9 = true) (he : R < 4 → 4 + R < n → f_X5_isDigit (cd (4 + R)) 1 9 = false) : ∀ (m k fu : Nat) (w : V1) (q9 : V2), k + m = R → m < fu → q9 2 = q 2 → w 6 = nI (60 * j + a + (4 + k)) → w 8 = nI k → ∃ w1 q1, f_X8_readTheRooms_5 (nI (60 * j + a + n)) fu w q9 = some (decide (0 < R), (w1, q1)) ∧ (∀ i, i ≠ 6 → i ≠ 8 → w1 i = w i) ∧ (∀ i, i ≠ 8 → q1 i = q9 i) ∧ w1 6 = nI (60 * j + a + (4 + R)) ∧ w1 8 = nI R ∧ (∀ i, i < k → q1 8 i = q9 8 i) ∧ (∀ i, k ≤ i → i < R → q1 8 i = cd (4 + i) - 48) := by
  intro m
  have hn := hT.1
  induction m with
  | zero =>
    intro k fu w q9 hk hf hq h6 h8
    obtain ⟨f', rfl⟩ : ∃ f', fu = f' + 1 := ⟨fu - 1, by omega⟩
    have e : k = R := by omega
    subst e
    refine ⟨w, q9, ?_, fun _ _ _ => rfl, fun _ _ => rfl, h6, h8, fun _ _ => rfl, fun i h1 h2 => by omega⟩
    rw [f_X8_readTheRooms_5_s, h8]
    rcases Nat.eq_or_lt_of_le hR with h | h
    · subst h
      rw [if_pos (show (4 : Int32) ≤ nI 4 by decide)]
      rfl
    · have hkn : 4 + k ≤ n := by
        rcases Nat.eq_zero_or_pos k with h0 | h0
        · omega
        · have := (hd (k - 1) (by omega)).1; omega
      rw [if_neg (show ¬ (4 : Int32) ≤ nI k from nI_ge (a := k) (b := 4) h (by decide)), show f_X8_digit w q9 (nI (60 * j + a + n)) 1 9 = _ from dig_f (lo := 1) (hi := 9) (hT.c (fun _ _ => rfl) hq) h6 hkn (fun h2 => he h h2), Option.bind_some]
      dsimp only
      rw [if_pos rfl]
      rcases Nat.eq_zero_or_pos k with h0 | h0
      · subst h0
        rw [if_pos (show w 8 ≤ 0 by rw [h8]; decide)]
        rfl
      · rw [if_neg (show ¬ w 8 ≤ 0 by rw [h8]; exact nI_nle h0 (by omega)), decide_eq_true h0]
  | succ m ih =>
    intro k fu w q9 hk hf hq h6 h8
    obtain ⟨f', rfl⟩ : ∃ f', fu = f' + 1 := ⟨fu - 1, by omega⟩
    obtain ⟨hd1, hd2⟩ := hd k (by omega)
    obtain ⟨z, hz, ez⟩ := dig_nat (lo := 1) (hi := 9) (by omega) (by omega) hd2
    rw [f_X8_readTheRooms_5_s, h8, if_neg (show ¬ (4 : Int32) ≤ nI k from nI_ge (a := k) (b := 4) (by omega) (by decide)), show f_X8_digit w q9 (nI (60 * j + a + n)) 1 9 = _ from dig_t (lo := 1) (hi := 9) (hT.c (fun _ _ => rfl) hq) h6 hd1 hd2, Option.bind_some]
    dsimp only
    have e8 : upd w 6 (nI (60 * j + a + (4 + k + 1))) 8 = nI k := by rw [pk_un (by decide), h8]
    rw [if_neg (by rw [ez]; exact nIm9 (by omega)), if_pos (by rw [e8]; exact inR_nI (by omega) (by decide)), e8, cl4 (by omega), nI_1]
    obtain ⟨w1, q1, e1, e2, e3, e4, e5, e6, e7⟩ := ih (k + 1) f' (upd (upd w 6 (nI (60 * j + a + (4 + k + 1)))) 8 (nI (k + 1))) (va_up q9 8 (upd (q9 8) k (cd (4 + k) - 48))) (by omega) (by omega) (by rw [va_up_ne _ _ (by decide), hq]) (by rw [pk_un (by decide), pk_us, Nat.add_assoc 4 k 1]) pk_us
    refine ⟨w1, q1, e1, fun i h1 h2 => by rw [e2 i h1 h2, pk_un h2, pk_un h1], fun i h => by rw [e3 i h, va_up_ne _ _ h], e4, e5, fun i h => by rw [e6 i (by omega), va_up_self, pk_un (by omega)], fun i h1 h2 => ?_⟩
    rcases Nat.eq_or_lt_of_le h1 with h | h
    · subst h
      rw [e6 k (by omega), va_up_self, pk_us]
    · exact e7 i h h2
def RAB (kz : Int32) (v : V1) (r : V2) (a1 : Int32) : Option (Bool × ST) := if inR (v 9) 6 = true then if inR (v 9) 6 = true then (if ((va_up r 9 (upd (r 9) (v 9).toNatClampNeg kz)) 9 (v 9).toNatClampNeg) = (-9) then some (false, (v, (va_up r 9 (upd (r 9) (v 9).toNatClampNeg kz)))) else (f_X8_digit (upd v 6 ((v 6) + 1)) (va_up r 9 (upd (r 9) (v 9).toNatClampNeg kz)) a1 (1 : Int32) (9 : Int32)).bind (fun y76 => if inR (v 9) 6 = true then if inR (v 9) 6 = true then (if ((va_up y76.2.2 10 (upd (y76.2.2 10) (v 9).toNatClampNeg y76.1)) 10 (v 9).toNatClampNeg) = (-9) then some (false, (y76.2.1, (va_up y76.2.2 10 (upd (y76.2.2 10) (v 9).toNatClampNeg y76.1)))) else (f_X8_digit y76.2.1 (va_up y76.2.2 10 (upd (y76.2.2 10) (v 9).toNatClampNeg y76.1)) a1 (0 : Int32) (9 : Int32)).bind (fun y80 => if inR (v 9) 6 = true then if inR (v 9) 6 = true then (if ((va_up y80.2.2 11 (upd (y80.2.2 11) (v 9).toNatClampNeg y80.1)) 11 (v 9).toNatClampNeg) = (-9) then some (false, (y80.2.1, (va_up y80.2.2 11 (upd (y80.2.2 11) (v 9).toNatClampNeg y80.1)))) else (f_X8_digit y80.2.1 (va_up y80.2.2 11 (upd (y80.2.2 11) (v 9).toNatClampNeg y80.1)) a1 (0 : Int32) (4 : Int32)).bind (fun y84 => (if y84.1 = (-9) then some (false, (y84.2.1, y84.2.2)) else (f_X8_digit y84.2.1 y84.2.2 a1 (0 : Int32) (9 : Int32)).bind (fun y86 => if inR (v 9) 6 = true then (if y86.1 = (-9) then some (false, ((upd y86.2.1 9 ((y86.2.1 9) + 1)), (va_up y86.2.2 12 (upd (y86.2.2 12) (v 9).toNatClampNeg ((10 * y84.1) + y86.1))))) else some (true, ((upd y86.2.1 9 ((y86.2.1 9) + 1)), (va_up y86.2.2 12 (upd (y86.2.2 12) (v 9).toNatClampNeg ((10 * y84.1) + y86.1)))))) else none)))) else none else none)) else none else none)) else none else none
theorem RAB_eq (v : V1) (r : V2) (a1 : Int32) : f_X8_readArticle v r a1 = (if a1 ≤ (v 6) then RAB (-9) v r a1 else if inR (v 6) 240 = true then (if (r 2 (v 6).toNatClampNeg) = 116 then RAB 0 v r a1 else (if (r 2 (v 6).toNatClampNeg) = 98 then RAB 1 v r a1 else (if (r 2 (v 6).toNatClampNeg) = 112 then RAB 2 v r a1 else RAB (-9) v r a1))) else none) := rfl
