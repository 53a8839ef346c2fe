/-! the plain calls -/
theorem Rel_of {v : V1} {r : V2} {w : V1} {q : V2} (c d k m t : Nat) (kd bk gy lo sp cn vl : Nat → Int32) (ht : v 0 = w 1) (hf : v 1 = w 0) (hS : SH r q) (hG : RG c d k m t kd bk gy lo sp cn vl)
    (c2 : v 2 = nI c) (c3 : v 3 = nI d) (c4 : v 4 = nI k) (c5 : v 5 = nI m) (c6 : v 6 = nI t) (r0 : r 0 = kd) (r1 : r 1 = bk) (r2 : r 2 = gy) (r3 : r 3 = lo) (r4 : r 4 = sp) (r5 : r 5 = cn) (r6 : r 6 = vl)
    (w4 : w 4 = nI c) (w3 : w 3 = nI d) (w2 : w 2 = nI k) (w5 : w 5 = nI m) (w13 : w 13 = nI t) (q4 : q 4 = kd) (q5 : q 5 = bk) (q6 : q 6 = gy) (q7 : q 7 = lo) (q3 : q 3 = sp) (q16 : q 16 = cn) (q17 : q 17 = vl) : Rel v r w q :=
  ⟨ht, hf, hS, c, d, k, m, t, kd, bk, gy, lo, sp, cn, vl, hG, ⟨c2, c3, c4, c5, c6, r0, r1, r2, r3, r4, r5, r6⟩, ⟨w4, w3, w2, w5, w13, q4, q5, q6, q7, q3, q16, q17⟩⟩
theorem upd_rng {f : Nat → Int32} {B : Nat} (h : ∀ j, ∃ z, z ≤ B ∧ f j = nI z) {i z : Nat} (hz : z ≤ B) : ∀ j, ∃ z', z' ≤ B ∧ upd f i (nI z) j = nI z' := by
  intro j
  by_cases e : j = i
  · subst e; exact ⟨z, hz, pk_us⟩
  · obtain ⟨z', h1, h2⟩ := h j; exact ⟨z', h1, by rw [pk_un e]; exact h2⟩
theorem upd_rngS {f : Nat → Int32} {B : Nat} (h : ∀ j, ∃ z, z < B ∧ f j = nI z) {i z : Nat} (hz : z < B) : ∀ j, ∃ z', z' < B ∧ upd f i (nI z) j = nI z' := by
  intro j
  by_cases e : j = i
  · subst e; exact ⟨z, hz, pk_us⟩
  · obtain ⟨z', h1, h2⟩ := h j; exact ⟨z', h1, by rw [pk_un e]; exact h2⟩
theorem op3 : Op3 Rel := by
  intro v r w q z0 z1 hR
  obtain ⟨ht, hf, hS, c, d, k, m, t, kd, bk, gy, lo, sp, cn, vl, hG, ⟨c2, c3, c4, c5, c6, r0, r1, r2, r3, r4, r5, r6⟩, ⟨w4, w3, w2, w5, w13, q4, q5, q6, q7, q3, q16, q17⟩⟩ := id hR
  unfold f_X7_cheer f_X8_cheer
  rcases art_cases c2 w4 hG.1 r q z0 with ⟨h1, h2⟩ | ⟨j, hj, rfl, h1, h2⟩
  · exact ⟨-1, v, r, w, q, by simp [h1], by simp [h2], hR⟩
  · have hj6 : j < 6 := by have := hG.1; omega
    have hi := inR_nI (k := j) (N := 6) hj6 (by decide)
    cases hb : f_X7_within z1 0 9 with
    | false => exact ⟨-2, v, r, w, q, by simp [h1], by rw [within8, if_pos h2, hb]; rfl, hR⟩
    | true =>
      obtain ⟨z, hz, rfl⟩ := within_nI (M := 9) (by decide) hb
      refine ⟨gy j, v, va_up r 2 (upd gy j (nI z)), w, va_up q 6 (upd gy j (nI z)), ?_, ?_, ?_⟩
      · rw [if_pos h1, if_pos rfl, if_pos hi, if_pos hi, cl6 hj6, r2]
      · rw [within8, if_pos h2, hb, if_pos rfl, if_pos hi, if_pos hi, cl6 hj6, q6]
      · exact Rel_of c d k m t kd bk (upd gy j (nI z)) lo sp cn vl ht hf (hS.c (fun i hi => va_up_ne _ _ (by omega)) (fun i hi => va_up_ne _ _ (by omega))) ⟨hG.1, hG.2.1, hG.2.2.1, hG.2.2.2.1, hG.2.2.2.2.1, hG.2.2.2.2.2.1, hG.2.2.2.2.2.2.1, hG.2.2.2.2.2.2.2.1, upd_rng hG.2.2.2.2.2.2.2.2.1 hz, hG.2.2.2.2.2.2.2.2.2⟩ c2 c3 c4 c5 c6 (by simp [va_up, r0]) (by simp [va_up, r1]) (by simp [va_up]) (by simp [va_up, r3]) (by simp [va_up, r4]) (by simp [va_up, r5]) (by simp [va_up, r6]) w4 w3 w2 w5 w13 (by simp [va_up, q4]) (by simp [va_up, q5]) (by simp [va_up]) (by simp [va_up, q7]) (by simp [va_up, q3]) (by simp [va_up, q16]) (by simp [va_up, q17])
theorem op4 : Op4 Rel := by
  intro v r w q z0 z1 hR
  obtain ⟨ht, hf, hS, c, d, k, m, t, kd, bk, gy, lo, sp, cn, vl, hG, ⟨c2, c3, c4, c5, c6, r0, r1, r2, r3, r4, r5, r6⟩, ⟨w4, w3, w2, w5, w13, q4, q5, q6, q7, q3, q16, q17⟩⟩ := id hR
  unfold f_X7_miss f_X8_miss
  rcases art_cases c2 w4 hG.1 r q z0 with ⟨h1, h2⟩ | ⟨j, hj, rfl, h1, h2⟩
  · exact ⟨-1, v, r, w, q, by simp [h1], by simp [h2], hR⟩
  · have hj6 : j < 6 := by have := hG.1; omega
    have hi := inR_nI (k := j) (N := 6) hj6 (by decide)
    cases hb : f_X7_within z1 0 49 with
    | false => exact ⟨-2, v, r, w, q, by simp [h1], by rw [within8, if_pos h2, hb]; rfl, hR⟩
    | true =>
      obtain ⟨z, hz, rfl⟩ := within_nI (M := 49) (by decide) hb
      refine ⟨lo j, v, va_up r 3 (upd lo j (nI z)), w, va_up q 7 (upd lo j (nI z)), ?_, ?_, ?_⟩
      · rw [if_pos h1, if_pos rfl, if_pos hi, if_pos hi, cl6 hj6, r3]
      · rw [within8, if_pos h2, hb, if_pos rfl, if_pos hi, if_pos hi, cl6 hj6, q7]
      · exact Rel_of c d k m t kd bk gy (upd lo j (nI z)) sp cn vl ht hf (hS.c (fun i hi => va_up_ne _ _ (by omega)) (fun i hi => va_up_ne _ _ (by omega))) ⟨hG.1, hG.2.1, hG.2.2.1, hG.2.2.2.1, hG.2.2.2.2.1, hG.2.2.2.2.2.1, hG.2.2.2.2.2.2.1, hG.2.2.2.2.2.2.2.1, hG.2.2.2.2.2.2.2.2.1, upd_rng hG.2.2.2.2.2.2.2.2.2.1 hz, hG.2.2.2.2.2.2.2.2.2.2⟩ c2 c3 c4 c5 c6 (by simp [va_up, r0]) (by simp [va_up, r1]) (by simp [va_up, r2]) (by simp [va_up]) (by simp [va_up, r4]) (by simp [va_up, r5]) (by simp [va_up, r6]) w4 w3 w2 w5 w13 (by simp [va_up, q4]) (by simp [va_up, q5]) (by simp [va_up, q6]) (by simp [va_up]) (by simp [va_up, q3]) (by simp [va_up, q16]) (by simp [va_up, q17])
theorem op5 : Op5 Rel := by
  intro v r w q z0 z1 hR
  obtain ⟨ht, hf, hS, c, d, k, m, t, kd, bk, gy, lo, sp, cn, vl, hG, ⟨c2, c3, c4, c5, c6, r0, r1, r2, r3, r4, r5, r6⟩, ⟨w4, w3, w2, w5, w13, q4, q5, q6, q7, q3, q16, q17⟩⟩ := id hR
  unfold f_X7_widen f_X8_widen
  rcases room_cases c3 w3 hG.2.1 r q z0 with ⟨h1, h2⟩ | ⟨j, hj, rfl, h1, h2⟩
  · exact ⟨-1, v, r, w, q, by simp [h1], by simp [h2], hR⟩
  · have hj4 : j < 4 := by have := hG.2.1; omega
    have hi := inR_nI (k := j) (N := 4) hj4 (by decide)
    have hcl : (nI j).toNatClampNeg = j := nI_clamp (by omega)
    cases hb : f_X7_within z1 1 9 with
    | false => exact ⟨-2, v, r, w, q, by simp [h1], by rw [within8, if_pos h2, hb]; rfl, hR⟩
    | true =>
      obtain ⟨z, hz, rfl⟩ : ∃ z, z ≤ 9 ∧ z1 = nI z := by
        obtain ⟨h3, h4⟩ := within_t hb
        refine nI_of2 (n := 9) (M := 9) rfl (fun h => h3 ?_) (i32_le_of_nlt h4)
        rw [Int32.lt_iff_toInt_lt] at h ⊢
        have e0 : (0 : Int32).toInt = 0 := rfl
        have e1 : (1 : Int32).toInt = 1 := rfl
        omega
      refine ⟨sp j, v, va_up r 4 (upd sp j (nI z)), w, va_up q 3 (upd sp j (nI z)), ?_, ?_, ?_⟩
      · rw [if_pos h1, if_pos rfl, if_pos hi, if_pos hi, hcl, r4]
      · rw [within8, if_pos h2, hb, if_pos rfl, if_pos hi, if_pos hi, hcl, q3]
      · exact Rel_of c d k m t kd bk gy lo (upd sp j (nI z)) cn vl ht hf (hS.c (fun i hi => va_up_ne _ _ (by omega)) (fun i hi => va_up_ne _ _ (by omega))) ⟨hG.1, hG.2.1, hG.2.2.1, hG.2.2.2.1, hG.2.2.2.2.1, hG.2.2.2.2.2.1, hG.2.2.2.2.2.2.1, hG.2.2.2.2.2.2.2.1, hG.2.2.2.2.2.2.2.2.1, hG.2.2.2.2.2.2.2.2.2.1, upd_rng hG.2.2.2.2.2.2.2.2.2.2.1 hz, hG.2.2.2.2.2.2.2.2.2.2.2⟩ c2 c3 c4 c5 c6 (by simp [va_up, r0]) (by simp [va_up, r1]) (by simp [va_up, r2]) (by simp [va_up, r3]) (by simp [va_up]) (by simp [va_up, r5]) (by simp [va_up, r6]) w4 w3 w2 w5 w13 (by simp [va_up, q4]) (by simp [va_up, q5]) (by simp [va_up, q6]) (by simp [va_up, q7]) (by simp [va_up]) (by simp [va_up, q16]) (by simp [va_up, q17])
theorem op6 : Op6 Rel := by
  intro v r w q z0 hR
  obtain ⟨ht, hf, hS, c, d, k, m, t, kd, bk, gy, lo, sp, cn, vl, hG, ⟨c2, c3, c4, c5, c6, r0, r1, r2, r3, r4, r5, r6⟩, ⟨w4, w3, w2, w5, w13, q4, q5, q6, q7, q3, q16, q17⟩⟩ := id hR
  unfold f_X7_shift f_X8_shift
  rw [isCorner8]
  cases hb : f_X7_isCorner z0 with
  | false => exact ⟨-2, v, r, w, q, rfl, rfl, hR⟩
  | true =>
    obtain ⟨z, hz, rfl⟩ := isCorner_nI hb
    rcases stands_cases c2 w4 hG.1 r with ⟨-, h1, h2⟩ | ⟨-, h1, h2⟩
    · exact ⟨-3, v, r, w, q, by simp [h1], by simp [h2], hR⟩
    · refine ⟨nI k, upd v 4 (nI z), r, upd w 2 (nI z), q, ?_, ?_, ?_⟩
      · rw [if_pos rfl, if_pos h1, c4]
      · rw [if_pos rfl, if_neg h2, w2]
      · exact Rel_of c d z m t kd bk gy lo sp cn vl (by simp [upd, ht]) (by simp [upd, hf]) hS ⟨hG.1, hG.2.1, hG.2.2.1, hz, hG.2.2.2.2⟩ (by simp [upd, c2]) (by simp [upd, c3]) (by simp [upd]) (by simp [upd, c5]) (by simp [upd, c6]) r0 r1 r2 r3 r4 r5 r6 (by simp [upd, w4]) (by simp [upd, w3]) (by simp [upd]) (by simp [upd, w5]) (by simp [upd, w13]) q4 q5 q6 q7 q3 q16 q17
/-- a set comes together, on both sides -/
theorem comes_eq {v : V1} {r : V2} {w : V1} {q : V2} {c d k m t : Nat} {kd bk gy lo sp cn vl : Nat → Int32} (ht : v 0 = w 1) (hf : v 1 = w 0) (hS : SH r q) (hG : RG c d k m t kd bk gy lo sp cn vl) (hC : CS c d k m t kd bk gy lo sp cn vl v r) (hM : MS c d k m t kd bk gy lo sp cn vl w q) {s : Nat} (hs : s < 2 ^ c) : ∃ m1, m1 < 2 ^ c ∧ CO c kd gy lo (nI s) = nI m1 ∧ f_X1_keepCompanyOf v r (nI s) = some (nI s &&& (nI m1 ^^^ (-1)), (upd v 5 (nI m1), r)) ∧ f_X8_comes w q (nI s) = some (nI s &&& (nI m1 ^^^ (-1)), (upd w 5 (nI m1), q)) ∧ Rel (upd v 5 (nI m1)) r (upd w 5 (nI m1)) q := by
  obtain ⟨c2, c3, c4, c5, c6, r0, r1, r2, r3, r4, r5, r6⟩ := hC
  obtain ⟨w4, w3, w2, w5, w13, q4, q5, q6, q7, q3, q16, q17⟩ := hM
  obtain ⟨m1, hm1, e⟩ := CO_nat (kd := kd) (gy := gy) (lo := lo) hG.1 hs
  refine ⟨m1, hm1, e, ?_, ?_, ?_⟩
  · unfold f_X1_keepCompanyOf
    rw [C_companyOf c2 hG.1 r0 r2 r3 hs, e, Option.bind_some, pk_us]
  · unfold f_X8_comes
    rw [M_companyOf w4 hG.1 q4 q6 q7 hG.2.2.2.2.2.2.1 hG.2.2.2.2.2.2.2.2.1 hs, e, Option.bind_some, pk_us]
  · exact Rel_of c d k m1 t kd bk gy lo sp cn vl (by simp [upd, ht]) (by simp [upd, hf]) hS ⟨hG.1, hG.2.1, hG.2.2.1, hG.2.2.2.1, hm1, hG.2.2.2.2.2⟩ (by simp [upd, c2]) (by simp [upd, c3]) (by simp [upd, c4]) (by simp [upd]) (by simp [upd, c6]) r0 r1 r2 r3 r4 r5 r6 (by simp [upd, w4]) (by simp [upd, w3]) (by simp [upd, w2]) (by simp [upd]) (by simp [upd, w13]) q4 q5 q6 q7 q3 q16 q17
theorem orb : ∀ m : Fin 64, ∀ j : Fin 6, nI m ||| (1 : Int32) <<< (nI j &&& 31) = nI (m.1 ||| 2 ^ j.1) := by decide +kernel
theorem offb : ∀ m : Fin 64, ∀ j : Fin 6, nI m &&& ((1 : Int32) <<< (nI j &&& 31) ^^^ (-1)) = nI (m.1 - (m.1 &&& 2 ^ j.1)) := by decide +kernel
theorem or_lt {c m j : Nat} (hm : m < 2 ^ c) (hj : j < c) : m ||| 2 ^ j < 2 ^ c := Nat.or_lt_two_pow hm (Nat.pow_lt_pow_right (by decide) hj)
theorem op9 : Op9 Rel := by
  intro v r w q z0 hR
  obtain ⟨ht, hf, hS, c, d, k, m, t, kd, bk, gy, lo, sp, cn, vl, hG, hC, hM⟩ := id hR
  unfold f_X7_send f_X8_send
  rcases art_cases hC.1 hM.1 hG.1 r q z0 with ⟨h1, h2⟩ | ⟨j, hj, rfl, h1, h2⟩
  · exact ⟨-1, v, r, w, q, by simp [h1], by simp [h2], hR⟩
  · have hj6 : j < 6 := by have := hG.1; omega
    rw [if_pos h1, if_pos h2, isOf8, hC.2.2.2.1, hM.2.2.2.1]
    cases hb : f_X7_has (nI m) (nI j) with
    | true => exact ⟨-3, v, r, w, q, rfl, rfl, hR⟩
    | false =>
      rw [if_neg (by simp), orb ⟨m, p64 hG.1 hG.2.2.2.2.1⟩ ⟨j, hj6⟩]
      obtain ⟨m1, hm1, e, e1, e2, hR1⟩ := comes_eq ht hf hS hG hC hM (or_lt hG.2.2.2.2.1 hj)
      exact ⟨_, _, _, _, _, by rw [e1]; rfl, by rw [e2]; rfl, hR1⟩
theorem op10 : Op10 Rel := by
  intro v r w q z0 hR
  obtain ⟨ht, hf, hS, c, d, k, m, t, kd, bk, gy, lo, sp, cn, vl, hG, hC, hM⟩ := id hR
  unfold f_X7_call f_X8_call
  rcases art_cases hC.1 hM.1 hG.1 r q z0 with ⟨h1, h2⟩ | ⟨j, hj, rfl, h1, h2⟩
  · exact ⟨-1, v, r, w, q, by simp [h1], by simp [h2], hR⟩
  · have hj6 : j < 6 := by have := hG.1; omega
    rw [if_pos h1, if_pos h2, isOf8, hC.2.2.2.1, hM.2.2.2.1]
    cases hb : f_X7_has (nI m) (nI j) with
    | false => exact ⟨-3, v, r, w, q, rfl, rfl, hR⟩
    | true =>
      rw [if_pos rfl, offb ⟨m, p64 hG.1 hG.2.2.2.2.1⟩ ⟨j, hj6⟩]
      obtain ⟨m1, hm1, e, e1, e2, hR1⟩ := comes_eq ht hf hS hG hC hM (s := m - (m &&& 2 ^ j)) (Nat.lt_of_le_of_lt (Nat.sub_le _ _) hG.2.2.2.2.1)
      exact ⟨_, _, _, _, _, by rw [e1]; rfl, by rw [e2]; rfl, hR1⟩
