/-! further plain calls -/
theorem bc8 : ∀ m : Fin 64, f_X8_size (nI m) = some (f_J6_bitCount_0f7a4 (nI m)) := by decide +kernel
theorem op33 : Op33 Rel := by
  rintro v r w q z0 ⟨ht, hf, hS, c, d, k, m, t, kd, bk, gy, lo, sp, cn, vl, hG, ⟨c2, c3, c4, c5, c6, r0, r1, r2, r3, r4, r5, r6⟩, ⟨w4, w3, w2, w5, w13, q4, q5, q6, q7, q3, q16, q17⟩⟩
  refine ⟨_, rfl, ?_⟩
  unfold f_X7_many f_X8_many
  rw [c2, c3, c4, c5, c6, w4, w3, w2, w5, w13, bc8 ⟨m, p64 hG.1 hG.2.2.2.2.1⟩, Option.bind_some]
  by_cases h0 : z0 = 0
  · rw [if_pos h0, if_pos h0]
  rw [if_neg h0, if_neg h0]
  by_cases h0 : z0 = 1
  · rw [if_pos h0, if_pos h0]
  rw [if_neg h0, if_neg h0]
  by_cases h0 : z0 = 2
  · rw [if_pos h0, if_pos h0]
  rw [if_neg h0, if_neg h0]
  by_cases h0 : z0 = 3
  · rw [if_pos h0, if_pos h0]
  rw [if_neg h0, if_neg h0]
  by_cases h0 : z0 = 4
  · rw [if_pos h0, if_pos h0]
  rw [if_neg h0, if_neg h0]
theorem op1 : Op1 Rel := by
  rintro v r w q z0 z1 ⟨ht, hf, hS, c, d, k, m, t, kd, bk, gy, lo, sp, cn, vl, hG, ⟨c2, c3, c4, c5, c6, r0, r1, r2, r3, r4, r5, r6⟩, ⟨w4, w3, w2, w5, w13, q4, q5, q6, q7, q3, q16, q17⟩⟩
  unfold f_X7_ofArticle f_X8_ofArticle
  rcases art_cases c2 w4 hG.1 r q z0 with ⟨h1, h2⟩ | ⟨j, hj, rfl, h1, h2⟩
  · exact ⟨-1, by simp [h1], by simp [h2]⟩
  · have hj6 : j < 6 := by have := hG.1; omega
    have hi := inR_nI (k := j) (N := 6) hj6 (by decide)
    have hL : f_X0_laugh v r j = LA kd gy j := by unfold f_X0_laugh LA; rw [r0, r2]
    rw [if_pos h1, if_pos hi, if_pos h2, cl6 hj6, r0, r1, r2, r3, q4, q5, q6, q7, hL, M_laughOf q4 q6 hG.2.2.2.2.2.2.1 hG.2.2.2.2.2.2.2.2.1 hj6, Option.bind_some, c5, w5]
    by_cases h0 : z1 = 0
    · rw [if_pos h0, if_pos h0, if_pos hi]; exact ⟨_, rfl, rfl⟩
    rw [if_neg h0, if_neg h0]
    by_cases h0 : z1 = 1
    · rw [if_pos h0, if_pos h0, if_pos hi]; exact ⟨_, rfl, rfl⟩
    rw [if_neg h0, if_neg h0]
    by_cases h0 : z1 = 2
    · rw [if_pos h0, if_pos h0, if_pos hi]; exact ⟨_, rfl, rfl⟩
    rw [if_neg h0, if_neg h0]
    by_cases h0 : z1 = 3
    · rw [if_pos h0, if_pos h0, if_pos hi]; exact ⟨_, rfl, rfl⟩
    rw [if_neg h0, if_neg h0]
    by_cases h0 : z1 = 4
    · rw [if_pos h0, if_pos h0]; exact ⟨_, rfl, rfl⟩
    rw [if_neg h0, if_neg h0]
    by_cases h0 : z1 = 5
    · rw [if_pos h0, if_pos h0]
      unfold f_X7_has
      rcases and1 (nI m >>> (nI j &&& 31)) with h | h
      · rw [h]; exact ⟨0, rfl, rfl⟩
      · rw [h]; exact ⟨1, rfl, rfl⟩
    rw [if_neg h0, if_neg h0]
    exact ⟨_, rfl, rfl⟩
/-- what is heard of a laugh S of a house at k, at z -/
def HR (S k z : Nat) : Nat := S - ((if z % 8 ≤ k % 8 then k % 8 - z % 8 else z % 8 - k % 8) + (if z / 8 ≤ k / 8 then k / 8 - z / 8 else z / 8 - k / 8))
theorem abs8 : ∀ a b : Fin 8, (if 0 ≤ nI a - nI b then nI a - nI b else 0 - (nI a - nI b)) = nI (if b.1 ≤ a.1 then a.1 - b.1 else b.1 - a.1) := by decide
theorem apart8 : ∀ a b : Fin 8, f_X8_apart (nI b) (nI a) = nI (if b.1 ≤ a.1 then a.1 - b.1 else b.1 - a.1) := by decide
theorem fad {S a b : Nat} (hS : S ≤ 108) (ha : a < 8) (hb : b < 8) : (if 0 < (nI S - nI a) - nI b then (nI S - nI a) - nI b else 0) = nI (S - (a + b)) := by
  have h : ∀ S : Fin 109, ∀ a b : Fin 8, (if 0 < (nI S - nI a) - nI b then (nI S - nI a) - nI b else 0) = nI (S.1 - (a.1 + b.1)) := by decide +kernel
  exact h ⟨S, by omega⟩ ⟨a, ha⟩ ⟨b, hb⟩
theorem carried_nat {S k z : Nat} (hS : S ≤ 108) (hk : k < 64) (hz : z < 64) : f_X7_carried (nI S) (nI k) (nI z) = nI (HR S k z) := by
  unfold f_X7_carried HR
  have e8 : (8 : Int32) = nI 8 := rfl
  rw [e8, pk_rem (a := k) (by omega) (by decide) (by decide), pk_rem (a := z) (by omega) (by decide) (by decide), pk_div (a := k) (by omega) (by decide) (by decide), pk_div (a := z) (by omega) (by decide) (by decide)]
  rw [abs8 ⟨k % 8, by omega⟩ ⟨z % 8, by omega⟩, abs8 ⟨k / 8, by omega⟩ ⟨z / 8, by omega⟩]
  apply fad hS
  · show (if z % 8 ≤ k % 8 then k % 8 - z % 8 else z % 8 - k % 8) < 8
    split <;> omega
  · show (if z / 8 ≤ k / 8 then k / 8 - z / 8 else z / 8 - k / 8) < 8
    split <;> omega
theorem heardAt_nat {w : V1} {q : V2} {S k z m : Nat} (hl : f_X8_laughsOf w q (nI m) = some (nI S)) (w2 : w 2 = nI k) (w5 : w 5 = nI m) (hS : S ≤ 108) (hk : k < 64) (hz : z < 64) : f_X8_heardAt w q (nI z) = some (nI (HR S k z)) := by
  unfold f_X8_heardAt HR
  have e8 : (8 : Int32) = nI 8 := rfl
  rw [w5, hl, Option.bind_some, w2, e8, pk_rem (a := k) (by omega) (by decide) (by decide), pk_rem (a := z) (by omega) (by decide) (by decide), pk_div (a := k) (by omega) (by decide) (by decide), pk_div (a := z) (by omega) (by decide) (by decide)]
  rw [apart8 ⟨k % 8, by omega⟩ ⟨z % 8, by omega⟩, apart8 ⟨k / 8, by omega⟩ ⟨z / 8, by omega⟩, nI_add]
  have h1 : (if z % 8 ≤ k % 8 then k % 8 - z % 8 else z % 8 - k % 8) < 8 := by split <;> omega
  have h2 : (if z / 8 ≤ k / 8 then k / 8 - z / 8 else z / 8 - k / 8) < 8 := by split <;> omega
  show (if nI S ≤ nI ((if z % 8 ≤ k % 8 then k % 8 - z % 8 else z % 8 - k % 8) + (if z / 8 ≤ k / 8 then k / 8 - z / 8 else z / 8 - k / 8)) then _ else some (nI S - nI ((if z % 8 ≤ k % 8 then k % 8 - z % 8 else z % 8 - k % 8) + (if z / 8 ≤ k / 8 then k / 8 - z / 8 else z / 8 - k / 8)))) = _
  generalize (if z % 8 ≤ k % 8 then k % 8 - z % 8 else z % 8 - k % 8) = a at h1 ⊢
  generalize (if z / 8 ≤ k / 8 then k / 8 - z / 8 else z / 8 - k / 8) = b at h2 ⊢
  rcases Nat.lt_or_ge (a + b) S with h | h
  · rw [if_neg (nI_ge h (by omega)), pk_sub (by omega)]
  · rw [if_pos (nI_le h (by omega)), show S - (a + b) = 0 by omega]; rfl
theorem op12 : Op12 Rel := by
  rintro v r w q z0 ⟨ht, hf, hS, c, d, k, m, t, kd, bk, gy, lo, sp, cn, vl, hG, ⟨c2, c3, c4, c5, c6, r0, r1, r2, r3, r4, r5, r6⟩, ⟨w4, w3, w2, w5, w13, q4, q5, q6, q7, q3, q16, q17⟩⟩
  unfold f_X7_heard f_X8_heard
  rw [isCorner8]
  cases hb : f_X7_isCorner z0 with
  | false => exact ⟨-2, rfl, rfl⟩
  | true =>
    obtain ⟨z, hz, rfl⟩ := isCorner_nI hb
    rcases stands_cases c2 w4 hG.1 r with ⟨-, h1, h2⟩ | ⟨-, h1, h2⟩
    · exact ⟨-3, by simp [h1], by simp [h2]⟩
    · obtain ⟨S, hSS, eS⟩ := LGS_nat (c := c) hG.2.2.2.2.2.2.1 hG.2.2.2.2.2.2.2.2.1 (nI m)
      have hS108 : S ≤ 108 := by have := hG.1; omega
      refine ⟨nI (HR S k z), ?_, ?_⟩
      · rw [if_pos rfl, if_pos h1, c5, C_laughOf c2 hG.1 r0 r2, eS, Option.bind_some, c4, carried_nat hS108 hG.2.2.2.1 hz]
      · rw [if_pos rfl, if_neg h2, heardAt_nat (S := S) (by rw [M_laughsOf w4 hG.1 q4 q6 hG.2.2.2.2.2.2.1 hG.2.2.2.2.2.2.2.2.1, eS]) w2 w5 hS108 hG.2.2.2.1 hz, Option.bind_some]
theorem op17 : Op17 Rel := by
  intro v r w q z0 z1 hR
  obtain ⟨ht, hf, hS, c, d, k, m, t, kd, bk, gy, lo, sp, cn, vl, hG, ⟨c2, c3, c4, c5, c6, r0, r1, r2, r3, r4, r5, r6⟩, ⟨w4, w3, w2, w5, w13, q4, q5, q6, q7, q3, q16, q17⟩⟩ := id hR
  unfold f_X7_reading f_X8_reading
  rw [isCorner8, within8]
  cases hb : f_X7_isCorner z0 with
  | false => exact ⟨-2, v, r, w, q, rfl, rfl, hR⟩
  | true =>
    obtain ⟨z, hz, rfl⟩ := isCorner_nI hb
    cases hb2 : f_X7_within z1 0 99 with
    | false => exact ⟨-2, v, r, w, q, rfl, rfl, hR⟩
    | true =>
      obtain ⟨y, hy, rfl⟩ := within_nI (M := 99) (by decide) hb2
      rw [if_pos rfl, if_pos rfl, if_pos rfl, if_pos rfl]
      rcases stands_cases c2 w4 hG.1 r with ⟨-, h1, h2⟩ | ⟨-, h1, h2⟩
      · exact ⟨-3, v, r, w, q, by simp [h1], by simp [h2], hR⟩
      · rw [if_pos h1, if_neg h2, c6, w13]
        have ht8 := hG.2.2.2.2.2.1
        rcases Nat.lt_or_ge t 8 with h | h
        · have hlt : nI t < 8 := nI_lt (b := 8) h (by decide)
          have hne : ¬ nI t = 8 := fun e => absurd ((nI_eq (a := t) (b := 8) (by omega) (by decide)).mp e) (by omega)
          have hi := inR_nI (k := t) (N := 8) h (by decide)
          have hcl : (nI t).toNatClampNeg = t := nI_clamp (by omega)
          rw [if_pos hlt, if_neg hne, if_pos hi, if_pos hi]
          unfold f_X3_add
          rw [c6, if_pos hlt, if_pos hi, if_pos hi, Option.bind_some, hcl, pk_us, pk_us, nI_1, nI_pred]
          refine ⟨nI t, upd v 6 (nI (t + 1)), va_up (va_up r 5 (upd (r 5) t (nI z))) 6 (upd (r 6) t (nI y)), upd w 13 (nI (t + 1)), va_up (va_up q 16 (upd (q 16) t (nI z))) 17 (upd (q 17) t (nI y)), rfl, rfl, ?_⟩
          exact Rel_of c d k m (t + 1) kd bk gy lo sp (upd cn t (nI z)) (upd vl t (nI y)) (by simp [upd, ht]) (by simp [upd, hf]) (hS.c (fun i hi => by rw [va_up_ne _ _ (by omega), va_up_ne _ _ (by omega)]) (fun i hi => by rw [va_up_ne _ _ (by omega), va_up_ne _ _ (by omega)])) ⟨hG.1, hG.2.1, hG.2.2.1, hG.2.2.2.1, hG.2.2.2.2.1, by omega, hG.2.2.2.2.2.2.1, hG.2.2.2.2.2.2.2.1, hG.2.2.2.2.2.2.2.2.1, hG.2.2.2.2.2.2.2.2.2.1, hG.2.2.2.2.2.2.2.2.2.2.1, upd_rngS hG.2.2.2.2.2.2.2.2.2.2.2.1 hz, upd_rng hG.2.2.2.2.2.2.2.2.2.2.2.2 hy⟩ (by simp [upd, c2]) (by simp [upd, c3]) (by simp [upd, c4]) (by simp [upd, c5]) (by simp [upd]) (by simp [va_up, r0]) (by simp [va_up, r1]) (by simp [va_up, r2]) (by simp [va_up, r3]) (by simp [va_up, r4]) (by simp [va_up, r5]) (by simp [va_up, r6]) (by simp [upd, w4]) (by simp [upd, w3]) (by simp [upd, w2]) (by simp [upd, w5]) (by simp [upd]) (by simp [va_up, q4]) (by simp [va_up, q5]) (by simp [va_up, q6]) (by simp [va_up, q7]) (by simp [va_up, q3]) (by simp [va_up, q16]) (by simp [va_up, q17])
        · have e : t = 8 := by omega
          subst e
          exact ⟨-4, v, r, w, q, rfl, rfl, hR⟩
theorem op18 : Op18 Rel := by
  intro v r w q z0 hR
  obtain ⟨ht, hf, hS, c, d, k, m, t, kd, bk, gy, lo, sp, cn, vl, hG, ⟨c2, c3, c4, c5, c6, r0, r1, r2, r3, r4, r5, r6⟩, ⟨w4, w3, w2, w5, w13, q4, q5, q6, q7, q3, q16, q17⟩⟩ := id hR
  unfold f_X7_back f_X8_back
  rw [within8, c6, w13]
  cases hb : f_X7_within z0 0 (nI t) with
  | false => exact ⟨-2, v, r, w, q, rfl, rfl, hR⟩
  | true =>
    have ht8 := hG.2.2.2.2.2.1
    obtain ⟨z, hz, rfl⟩ := within_nI (M := t) (by omega) hb
    rw [if_pos rfl, if_pos rfl, pk_us, pk_us, pk_sub hz]
    exact ⟨nI (t - z), _, _, _, _, rfl, rfl, Rel_of c d k m (t - z) kd bk gy lo sp cn vl (by simp [upd, ht]) (by simp [upd, hf]) hS ⟨hG.1, hG.2.1, hG.2.2.1, hG.2.2.2.1, hG.2.2.2.2.1, by omega, hG.2.2.2.2.2.2⟩ (by simp [upd, c2]) (by simp [upd, c3]) (by simp [upd, c4]) (by simp [upd, c5]) (by simp [upd]) r0 r1 r2 r3 r4 r5 r6 (by simp [upd, w4]) (by simp [upd, w3]) (by simp [upd, w2]) (by simp [upd, w5]) (by simp [upd]) q4 q5 q6 q7 q3 q16 q17⟩
/-- a new TRACE on both sides -/
theorem Rel_trace {v : V1} {r : V2} {w : V1} {q : V2} (h : Rel v r w q) (x : Int32) : Rel (upd v 0 x) r (upd w 1 x) q := by
  obtain ⟨ht, hf, hS, c, d, k, m, t, kd, bk, gy, lo, sp, cn, vl, hG, ⟨c2, c3, c4, c5, c6, r0, r1, r2, r3, r4, r5, r6⟩, ⟨w4, w3, w2, w5, w13, q4, q5, q6, q7, q3, q16, q17⟩⟩ := h
  exact Rel_of c d k m t kd bk gy lo sp cn vl (by simp [upd]) (by simp [upd, hf]) hS hG (by simp [upd, c2]) (by simp [upd, c3]) (by simp [upd, c4]) (by simp [upd, c5]) (by simp [upd, c6]) r0 r1 r2 r3 r4 r5 r6 (by simp [upd, w4]) (by simp [upd, w3]) (by simp [upd, w2]) (by simp [upd, w5]) (by simp [upd, w13]) q4 q5 q6 q7 q3 q16 q17
theorem Rel_fault {v : V1} {r : V2} {w : V1} {q : V2} (h : Rel v r w q) (x : Int32) : Rel (upd v 1 x) r (upd w 0 x) q := by
  obtain ⟨ht, hf, hS, c, d, k, m, t, kd, bk, gy, lo, sp, cn, vl, hG, ⟨c2, c3, c4, c5, c6, r0, r1, r2, r3, r4, r5, r6⟩, ⟨w4, w3, w2, w5, w13, q4, q5, q6, q7, q3, q16, q17⟩⟩ := h
  exact Rel_of c d k m t kd bk gy lo sp cn vl (by simp [upd, ht]) (by simp [upd]) hS hG (by simp [upd, c2]) (by simp [upd, c3]) (by simp [upd, c4]) (by simp [upd, c5]) (by simp [upd, c6]) r0 r1 r2 r3 r4 r5 r6 (by simp [upd, w4]) (by simp [upd, w3]) (by simp [upd, w2]) (by simp [upd, w5]) (by simp [upd, w13]) q4 q5 q6 q7 q3 q16 q17
theorem tell2 : ∀ g : Fin 10, (nI g + 100) + nI g = 2 * nI g + 100 := by decide
theorem op28 : Op28 Rel := by
  intro v r w q z0 hR
  obtain ⟨ht, hf, hS, c, d, k, m, t, kd, bk, gy, lo, sp, cn, vl, hG, ⟨c2, c3, c4, c5, c6, r0, r1, r2, r3, r4, r5, r6⟩, ⟨w4, w3, w2, w5, w13, q4, q5, q6, q7, q3, q16, q17⟩⟩ := id hR
  unfold f_X7_tell f_X8_tell
  rcases art_cases c2 w4 hG.1 r q z0 with ⟨h1, h2⟩ | ⟨j, hj, rfl, h1, h2⟩
  · exact ⟨-1, v, r, w, q, by simp [h1], by simp [h2], hR⟩
  · have hj6 : j < 6 := by have := hG.1; omega
    have hi := inR_nI (k := j) (N := 6) hj6 (by decide)
    obtain ⟨g, hg, eg⟩ := hG.2.2.2.2.2.2.2.2.1 j
    rw [if_pos h1, if_pos hi, if_pos h2, if_pos hi, if_pos hi, cl6 hj6, r0, q4, q6, eg]
    unfold f_X7_tellAsPerson f_X7_tellAsBeast f_X7_tellAsThing f_X7_begin f_X8_begins
    simp only [Option.bind_some, pk_us, r2, eg, ht]
    by_cases h0 : kd j = 1
    · rw [if_pos h0, if_pos h0]
      exact ⟨_, _, _, _, _, rfl, rfl, Rel_trace (Rel_trace hR _) _⟩
    rw [if_neg h0, if_neg h0]
    by_cases h0 : kd j = 2
    · rw [if_pos h0, if_pos h0]
      refine ⟨_, _, _, _, _, rfl, ?_, Rel_trace (Rel_trace (Rel_trace (Rel_trace hR _) _) _) _⟩
      rw [tell2 ⟨g, by omega⟩]
    rw [if_neg h0, if_neg h0]
    exact ⟨_, _, _, _, _, rfl, rfl, Rel_trace hR _⟩
theorem op29 : Op29 Rel := by
  intro v r w q z0 hR
  obtain ⟨ht, hf, hS, c, d, k, m, t, kd, bk, gy, lo, sp, cn, vl, hG, ⟨c2, c3, c4, c5, c6, r0, r1, r2, r3, r4, r5, r6⟩, ⟨w4, w3, w2, w5, w13, q4, q5, q6, q7, q3, q16, q17⟩⟩ := id hR
  unfold f_X7_announce f_X8_announce
  rcases art_cases c2 w4 hG.1 r q z0 with ⟨h1, h2⟩ | ⟨j, hj, rfl, h1, h2⟩
  · exact ⟨-1, v, r, w, q, by simp [h1], by simp [h2], hR⟩
  · have hj6 : j < 6 := by have := hG.1; omega
    have hi := inR_nI (k := j) (N := 6) hj6 (by decide)
    rw [if_pos h1, if_pos hi, if_pos h2, if_pos hi, cl6 hj6, r0, q4]
    unfold f_X7_begin f_X8_begins
    simp only [Option.bind_some, hi, if_true, q4, ht]
    by_cases h0 : kd j = 2
    · simp only [h0, if_true]
      exact ⟨_, _, _, _, _, rfl, rfl, Rel_trace hR _⟩
    · simp only [h0, if_false]
      exact ⟨_, _, _, _, _, rfl, rfl, Rel_trace hR _⟩
theorem op30 : Op30 Rel := by
  intro v r w q z0 z1 hR0
  have hR := Rel_fault hR0 0
  obtain ⟨ht, hf, hS, c, d, k, m, t, kd, bk, gy, lo, sp, cn, vl, hG, ⟨c2, c3, c4, c5, c6, r0, r1, r2, r3, r4, r5, r6⟩, ⟨w4, w3, w2, w5, w13, q4, q5, q6, q7, q3, q16, q17⟩⟩ := id hR
  unfold f_X7_as f_X8_as
  rw [within8]
  rcases art_cases c2 w4 hG.1 r q z0 with ⟨h1, h2⟩ | ⟨j, hj, rfl, h1, h2⟩
  · exact ⟨-1, _, r, _, q, by rw [h1]; rfl, by rw [h2]; rfl, hR⟩
  · have hj6 : j < 6 := by have := hG.1; omega
    have hi := inR_nI (k := j) (N := 6) hj6 (by decide)
    rw [if_pos h1, if_pos h2, if_pos hi, if_pos hi, cl6 hj6, r0, q4]
    cases hb : f_X7_within z1 0 2 with
    | false => exact ⟨-2, _, r, _, q, rfl, rfl, hR⟩
    | true =>
      rw [if_pos rfl, if_pos rfl]
      unfold f_X7_failed f_X8_fails
      by_cases h0 : kd j < z1
      · rw [if_pos h0, if_pos h0]
        exact ⟨_, _, _, _, _, rfl, rfl, Rel_fault hR _⟩
      · rw [if_neg h0, if_neg h0]
        exact ⟨_, _, _, _, _, rfl, rfl, hR⟩
