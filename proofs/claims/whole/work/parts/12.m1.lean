/-! one article of the text -/
def FM (w w1 : V1) (q q1 : V2) : Prop := (∀ i, i ≠ 6 → i ≠ 7 → i ≠ 8 → i ≠ 9 → w1 i = w i) ∧ (∀ i, (i < 8 ∨ 12 < i) → q1 i = q i)
theorem FM.t {w w1 w2 : V1} {q q1 q2 : V2} (h : FM w w1 q q1) (g : FM w1 w2 q1 q2) : FM w w2 q q2 :=
  ⟨fun i a b c d => (g.1 i a b c d).trans (h.1 i a b c d), fun i a => (g.2 i a).trans (h.2 i a)⟩
theorem dstep {v : V1} {r q : V2} {j a n R b s lo hi : Nat} {cd : Nat → Int32} (hT : TX j a n cd r q) (hR0 : 0 < R) (hR : R ≤ 4) (hb : b < 6) (hs0 : 0 < s) (hs : s < 6) (hlo : lo ≤ 9) (hhi : hi ≤ 9) (hart : ∀ code, f_X5_articleGoesOn (nI s) code = f_X5_isDigit code (nI lo) (nI hi)) {w : V1} {q' : V2} (hq : q' 2 = q 2) (hw : w 6 = nI (60 * j + a + (4 + R + 6 * b + s))) (hp : 4 + R + 6 * b + s ≤ n) :
    (f_X8_digit w q' (nI (60 * j + a + n)) (nI lo) (nI hi) = some (-9, (w, q')) ∧ CF v r j a n R (4 + R + 6 * b + s) = some (nI (4 + R + 6 * b + s))) ∨
    (4 + R + 6 * b + s < n ∧ ∃ z, z ≤ hi ∧ cd (4 + R + 6 * b + s) - 48 = nI z ∧ f_X8_digit w q' (nI (60 * j + a + n)) (nI lo) (nI hi) = some (nI z, (upd w 6 (nI (60 * j + a + (4 + R + 6 * b + s + 1))), q')) ∧ CF v r j a n R (4 + R + 6 * b + s) = CF v r j a n R (4 + R + 6 * b + s + 1)) := by
  have hn := hT.1
  have hT' : TX j a n cd r q' := hT.c (fun _ _ => rfl) hq
  rcases Nat.eq_or_lt_of_le hp with e | e
  · left
    refine ⟨dig_f hT' hw hp (fun h => by omega), ?_⟩
    rw [e, CF_end hn hR, if_neg (by omega)]
  · cases hd : f_X5_isDigit (cd (4 + R + 6 * b + s)) (nI lo) (nI hi) with
    | false =>
      left
      exact ⟨dig_f hT' hw hp (fun _ => hd), CF_stop hT e (by rw [gart hR0 hR hb hs, hart, hd])⟩
    | true =>
      right
      obtain ⟨z, hz, ez⟩ := dig_nat hlo hhi hd
      refine ⟨e, z, hz, ez, ?_, CF_go hT e (by rw [gart hR0 hR hb hs, hart, hd])⟩
      rw [dig_t hT' hw e hd, ez]
theorem ag2 (code : Int32) : f_X5_articleGoesOn (nI 2) code = f_X5_isDigit code (nI 1) (nI 9) := by
  unfold f_X5_articleGoesOn
  rw [if_neg (show ¬ nI 2 = 0 by decide), if_neg (show ¬ nI 2 = 1 by decide), if_pos (show nI 2 = 2 by decide)]
  rfl
theorem ag3 (code : Int32) : f_X5_articleGoesOn (nI 3) code = f_X5_isDigit code (nI 0) (nI 9) := by
  unfold f_X5_articleGoesOn
  rw [if_neg (show ¬ nI 3 = 0 by decide), if_neg (show ¬ nI 3 = 1 by decide), if_neg (show ¬ nI 3 = 2 by decide), if_pos (show nI 3 = 3 by decide)]
  rfl
theorem ag4 (code : Int32) : f_X5_articleGoesOn (nI 4) code = f_X5_isDigit code (nI 0) (nI 4) := by
  unfold f_X5_articleGoesOn
  rw [if_neg (show ¬ nI 4 = 0 by decide), if_neg (show ¬ nI 4 = 1 by decide), if_neg (show ¬ nI 4 = 2 by decide), if_neg (show ¬ nI 4 = 3 by decide), if_pos (show nI 4 = 4 by decide)]
  rfl
theorem ag5 (code : Int32) : f_X5_articleGoesOn (nI 5) code = f_X5_isDigit code (nI 0) (nI 9) := by
  unfold f_X5_articleGoesOn
  rw [if_neg (show ¬ nI 5 = 0 by decide), if_neg (show ¬ nI 5 = 1 by decide), if_neg (show ¬ nI 5 = 2 by decide), if_neg (show ¬ nI 5 = 3 by decide), if_neg (show ¬ nI 5 = 4 by decide)]
  rfl
theorem art_body {v : V1} {r q : V2} {j a n R b z : Nat} {cd : Nat → Int32} (hT : TX j a n cd r q) (hR0 : 0 < R) (hR : R ≤ 4) (hb : b < 6) (hz : z < 3) {w : V1} {q9 : V2} (hq : q9 2 = q 2) (h9 : w 9 = nI b) (h6 : w 6 = nI (60 * j + a + (4 + R + 6 * b + 1))) (hp : 4 + R + 6 * b + 1 < n) :
    (∃ p' w1 q1, RAB (nI z) w q9 (nI (60 * j + a + n)) = some (false, (w1, q1)) ∧ w1 6 = nI (60 * j + a + p') ∧ CF v r j a n R (4 + R + 6 * b + 2) = some (nI p') ∧ p' ≤ n ∧ FM w w1 q9 q1) ∨
    (4 + R + 6 * b + 6 ≤ n ∧ ∃ w1 q1, RAB (nI z) w q9 (nI (60 * j + a + n)) = some (true, (w1, q1)) ∧ w1 6 = nI (60 * j + a + (4 + R + 6 * b + 6)) ∧ w1 9 = nI (b + 1) ∧ CF v r j a n R (4 + R + 6 * b + 2) = CF v r j a n R (4 + R + 6 * b + 6) ∧ (∀ i, i ≠ 6 → i ≠ 9 → w1 i = w i) ∧ (∀ i, (i < 9 ∨ 12 < i) → q1 i = q9 i) ∧ q1 9 = upd (q9 9) b (nI z) ∧ q1 10 = upd (q9 10) b (cd (4 + R + 6 * b + 2) - 48) ∧ q1 11 = upd (q9 11) b (cd (4 + R + 6 * b + 3) - 48) ∧ q1 12 = upd (q9 12) b (10 * (cd (4 + R + 6 * b + 4) - 48) + (cd (4 + R + 6 * b + 5) - 48)) ∧ (∃ y, y ≤ 9 ∧ cd (4 + R + 6 * b + 2) - 48 = nI y) ∧ (∃ y, y ≤ 9 ∧ cd (4 + R + 6 * b + 3) - 48 = nI y) ∧ (∃ y, y ≤ 49 ∧ 10 * (cd (4 + R + 6 * b + 4) - 48) + (cd (4 + R + 6 * b + 5) - 48) = nI y)) := by
  have hib := inR_nI (k := b) (N := 6) hb (by decide)
  have e6 : w 6 + 1 = nI (60 * j + a + (4 + R + 6 * b + 2)) := by
    rw [h6]
    exact (nI_1 _).trans (congrArg nI (by omega))
  unfold RAB
  rw [h9, if_pos hib, if_pos hib, cl6 hb, va_up_self, pk_us, if_neg (nIm9 (a := z) (by omega)), e6]
  rcases dstep (v := v) hT hR0 hR hb (by omega) (by omega) (by omega) (by omega) ag2 (w := upd w 6 (nI (60 * j + a + (4 + R + 6 * b + 2)))) (q' := va_up q9 9 (upd (q9 9) b (nI z))) (by rw [va_up_ne _ _ (by decide), hq]) pk_us (by omega) with ⟨d1, d2⟩ | ⟨d0, z2, hz2, ez2, d1, d2⟩
  · left
    rw [show f_X8_digit _ _ _ 1 9 = _ from d1, Option.bind_some]
    dsimp only
    rw [if_pos hib, if_pos hib, if_pos (by rw [va_up_self, pk_us])]
    refine ⟨_, _, _, rfl, pk_us, d2, by omega, fun i i1 i2 i3 i4 => pk_un i1, fun i hi => ?_⟩
    rw [va_up_ne _ _ (by omega), va_up_ne _ _ (by omega)]
  · rw [show f_X8_digit _ _ _ 1 9 = _ from d1, Option.bind_some]
    dsimp only
    rw [if_pos hib, if_pos hib, if_neg (by rw [va_up_self, pk_us]; exact nIm9 (a := z2) (by omega))]
    rcases dstep (v := v) hT hR0 hR hb (by omega) (by omega) (by omega) (by omega) ag3 (w := upd (upd w 6 (nI (60 * j + a + (4 + R + 6 * b + 2)))) 6 (nI (60 * j + a + (4 + R + 6 * b + 2 + 1)))) (q' := va_up (va_up q9 9 (upd (q9 9) b (nI z))) 10 (upd (va_up q9 9 (upd (q9 9) b (nI z)) 10) b (nI z2))) (by rw [va_up_ne _ _ (by decide), va_up_ne _ _ (by decide), hq]) (pk_us.trans (congrArg nI (by omega))) (by omega) with ⟨g1, g2⟩ | ⟨g0, z3, hz3, ez3, g1, g2⟩
    · left
      rw [show f_X8_digit _ _ _ 0 9 = _ from g1, Option.bind_some]
      dsimp only
      rw [if_pos hib, if_pos hib, if_pos (by rw [va_up_self, pk_us])]
      refine ⟨_, _, _, rfl, pk_us, d2.trans g2, by omega, fun i i1 i2 i3 i4 => by rw [pk_un i1, pk_un i1], fun i hi => ?_⟩
      rw [va_up_ne _ _ (by omega), va_up_ne _ _ (by omega), va_up_ne _ _ (by omega)]
    · rw [show f_X8_digit _ _ _ 0 9 = _ from g1, Option.bind_some]
      dsimp only
      rw [if_pos hib, if_pos hib, if_neg (by rw [va_up_self, pk_us]; exact nIm9 (a := z3) (by omega))]
      generalize hQ2 : va_up (va_up q9 9 (upd (q9 9) b (nI z))) 10 (upd (va_up q9 9 (upd (q9 9) b (nI z)) 10) b (nI z2)) = Q2
      generalize hW2 : upd (upd (upd w 6 (nI (60 * j + a + (4 + R + 6 * b + 2)))) 6 (nI (60 * j + a + (4 + R + 6 * b + 2 + 1)))) 6 (nI (60 * j + a + (4 + R + 6 * b + 3 + 1))) = W2
      have hW2a : ∀ i, i ≠ 6 → W2 i = w i := fun i hi => by rw [← hW2, pk_un hi, pk_un hi, pk_un hi]
      have hW2b : W2 6 = nI (60 * j + a + (4 + R + 6 * b + 4)) := by rw [← hW2]; exact pk_us.trans (congrArg nI (by omega))
      have hQ2a : ∀ i, (i < 9 ∨ 12 < i) → Q2 i = q9 i := fun i hi => by rw [← hQ2, va_up_ne _ _ (by omega), va_up_ne _ _ (by omega)]
      have hQ9 : Q2 9 = upd (q9 9) b (nI z) := by rw [← hQ2, va_up_ne _ _ (by decide), va_up_self]
      have hQ10 : Q2 10 = upd (q9 10) b (nI z2) := by rw [← hQ2, va_up_self, va_up_ne _ _ (by decide)]
      have hQ11 : Q2 11 = q9 11 := by rw [← hQ2, va_up_ne _ _ (by decide), va_up_ne _ _ (by decide)]
      have hQ12 : Q2 12 = q9 12 := by rw [← hQ2, va_up_ne _ _ (by decide), va_up_ne _ _ (by decide)]
      rcases dstep (v := v) hT hR0 hR hb (by omega) (by omega) (by omega) (by omega) ag4 (w := W2) (q' := va_up Q2 11 (upd (Q2 11) b (nI z3))) (by rw [va_up_ne _ _ (by decide), hQ2a 2 (by omega), hq]) hW2b (by omega) with ⟨k1, k2⟩ | ⟨k0, z4, hz4, ez4, k1, k2⟩
      · left
        rw [show f_X8_digit _ _ _ 0 4 = _ from k1, Option.bind_some]
        dsimp only
        rw [if_pos rfl]
        refine ⟨_, _, _, rfl, hW2b, d2.trans (g2.trans k2), by omega, fun i i1 i2 i3 i4 => hW2a i i1, fun i hi => ?_⟩
        rw [va_up_ne _ _ (by omega), hQ2a i (by omega)]
      · rw [show f_X8_digit _ _ _ 0 4 = _ from k1, Option.bind_some]
        dsimp only
        rw [if_neg (nIm9 (a := z4) (by omega))]
        rcases dstep (v := v) hT hR0 hR hb (by omega) (by omega) (by omega) (by omega) ag5 (w := upd W2 6 (nI (60 * j + a + (4 + R + 6 * b + 4 + 1)))) (q' := va_up Q2 11 (upd (Q2 11) b (nI z3))) (by rw [va_up_ne _ _ (by decide), hQ2a 2 (by omega), hq]) (pk_us.trans (congrArg nI (by omega))) (by omega) with ⟨l1, l2⟩ | ⟨l0, z5, hz5, ez5, l1, l2⟩
        · left
          rw [show f_X8_digit _ _ _ 0 9 = _ from l1, Option.bind_some]
          dsimp only
          rw [if_pos hib, if_pos rfl]
          refine ⟨_, _, _, rfl, (pk_un (by decide)).trans pk_us, d2.trans (g2.trans (k2.trans l2)), by omega, fun i i1 i2 i3 i4 => by rw [pk_un i4, pk_un i1, hW2a i i1], fun i hi => ?_⟩
          rw [va_up_ne _ _ (by omega), va_up_ne _ _ (by omega), hQ2a i (by omega)]
        · right
          refine ⟨by omega, ?_⟩
          rw [show f_X8_digit _ _ _ 0 9 = _ from l1, Option.bind_some]
          dsimp only
          rw [if_pos hib, if_neg (nIm9 (a := z5) (by omega))]
          refine ⟨_, _, rfl, ?_, ?_, d2.trans (g2.trans (k2.trans l2)), fun i i1 i2 => by rw [pk_un i2, pk_un i1, pk_un i1, hW2a i i1], fun i hi => ?_, ?_, ?_, ?_, ?_, ⟨z2, hz2, ez2⟩, ⟨z3, hz3, ez3⟩, ⟨10 * z4 + z5, by omega, ?_⟩⟩
          · exact (pk_un (by decide)).trans pk_us
          · rw [pk_us, pk_un (by decide), pk_un (by decide), hW2a 9 (by decide), h9, nI_1]
          · rw [va_up_ne _ _ (by omega), va_up_ne _ _ (by omega), hQ2a i (by omega)]
          · rw [va_up_ne _ _ (by decide), va_up_ne _ _ (by decide), hQ9]
          · rw [va_up_ne _ _ (by decide), va_up_ne _ _ (by decide), hQ10, ez2]
          · rw [va_up_ne _ _ (by decide), va_up_self, hQ11, ez3]
          · rw [va_up_self, va_up_ne _ _ (by decide), hQ12, ez4, ez5]
          · rw [ez4, ez5]
            show nI 10 * nI z4 + nI z5 = _
            rw [pk_mul, nI_add]
theorem RAB_m9 {w : V1} {q9 : V2} {b : Nat} (hb : b < 6) (h9 : w 9 = nI b) (E : Int32) : RAB (-9) w q9 E = some (false, (w, va_up q9 9 (upd (q9 9) b (-9)))) := by
  have hib := inR_nI (k := b) (N := 6) hb (by decide)
  unfold RAB
  rw [h9, if_pos hib, if_pos hib, cl6 hb, va_up_self, pk_us, if_pos rfl]
theorem ag1 (code : Int32) : f_X5_articleGoesOn (nI 1) code = (if f_X5_kindOf code = -9 then false else true) := by
  unfold f_X5_articleGoesOn
  rw [if_neg (show ¬ nI 1 = 0 by decide), if_pos (show nI 1 = 1 by decide)]
theorem ag0 (code : Int32) : f_X5_articleGoesOn (nI 0) code = (if code = 59 then true else false) := by
  unfold f_X5_articleGoesOn
  rw [if_pos (show nI 0 = 0 by decide)]
/-- the kind decides which body is run -/
theorem kinds3 (code : Int32) : (code = 116 ∧ f_X5_kindOf code = nI 0) ∨ (¬ code = 116 ∧ code = 98 ∧ f_X5_kindOf code = nI 1) ∨ (¬ code = 116 ∧ ¬ code = 98 ∧ code = 112 ∧ f_X5_kindOf code = nI 2) ∨ (¬ code = 116 ∧ ¬ code = 98 ∧ ¬ code = 112 ∧ f_X5_kindOf code = -9) := by
  unfold f_X5_kindOf
  by_cases h1 : code = 116
  · left; subst h1; exact ⟨rfl, rfl⟩
  · by_cases h2 : code = 98
    · right; left; subst h2; exact ⟨h1, rfl, rfl⟩
    · by_cases h3 : code = 112
      · right; right; left; subst h3; exact ⟨h1, h2, rfl, rfl⟩
      · right; right; right
        refine ⟨h1, h2, h3, ?_⟩
        rw [if_neg h2, if_neg h3, if_neg h1]
theorem M_art {v : V1} {r q : V2} {j a n R b : Nat} {cd : Nat → Int32} (hT : TX j a n cd r q) (hR0 : 0 < R) (hR : R ≤ 4) (hb : b < 6) {w : V1} {q9 : V2} (hq : q9 2 = q 2) (h9 : w 9 = nI b) (h6 : w 6 = nI (60 * j + a + (4 + R + 6 * b + 1))) (hp : 4 + R + 6 * b + 1 ≤ n) :
    (∃ p' w1 q1, f_X8_readArticle w q9 (nI (60 * j + a + n)) = some (false, (w1, q1)) ∧ w1 6 = nI (60 * j + a + p') ∧ CF v r j a n R (4 + R + 6 * b + 1) = some (nI p') ∧ p' ≤ n ∧ FM w w1 q9 q1) ∨
    (4 + R + 6 * b + 6 ≤ n ∧ ∃ z w1 q1, z < 3 ∧ f_X5_kindOf (cd (4 + R + 6 * b + 1)) = nI z ∧ f_X8_readArticle w q9 (nI (60 * j + a + n)) = some (true, (w1, q1)) ∧ w1 6 = nI (60 * j + a + (4 + R + 6 * b + 6)) ∧ w1 9 = nI (b + 1) ∧ CF v r j a n R (4 + R + 6 * b + 1) = CF v r j a n R (4 + R + 6 * b + 6) ∧ (∀ i, i ≠ 6 → i ≠ 9 → w1 i = w i) ∧ (∀ i, (i < 9 ∨ 12 < i) → q1 i = q9 i) ∧ q1 9 = upd (q9 9) b (nI z) ∧ q1 10 = upd (q9 10) b (cd (4 + R + 6 * b + 2) - 48) ∧ q1 11 = upd (q9 11) b (cd (4 + R + 6 * b + 3) - 48) ∧ q1 12 = upd (q9 12) b (10 * (cd (4 + R + 6 * b + 4) - 48) + (cd (4 + R + 6 * b + 5) - 48)) ∧ (∃ y, y ≤ 9 ∧ cd (4 + R + 6 * b + 2) - 48 = nI y) ∧ (∃ y, y ≤ 9 ∧ cd (4 + R + 6 * b + 3) - 48 = nI y) ∧ (∃ y, y ≤ 49 ∧ 10 * (cd (4 + R + 6 * b + 4) - 48) + (cd (4 + R + 6 * b + 5) - 48) = nI y)) := by
  have hn := hT.1
  have hX := hT.2.1
  have fail : f_X8_readArticle w q9 (nI (60 * j + a + n)) = RAB (-9) w q9 (nI (60 * j + a + n)) → CF v r j a n R (4 + R + 6 * b + 1) = some (nI (4 + R + 6 * b + 1)) → ∃ p' w1 q1, f_X8_readArticle w q9 (nI (60 * j + a + n)) = some (false, (w1, q1)) ∧ w1 6 = nI (60 * j + a + p') ∧ CF v r j a n R (4 + R + 6 * b + 1) = some (nI p') ∧ p' ≤ n ∧ FM w w1 q9 q1 := by
    intro h1 h2
    refine ⟨4 + R + 6 * b + 1, w, _, h1.trans (RAB_m9 hb h9 _), h6, h2, hp, fun i _ _ _ _ => rfl, fun i hi => ?_⟩
    rw [va_up_ne _ _ (by omega)]
  rcases Nat.eq_or_lt_of_le hp with e | e
  · left
    apply fail
    · rw [RAB_eq, h6, if_pos (nI_le (by omega) (by omega))]
    · rw [e, CF_end hn hR, if_neg (by omega)]
  · have hre : f_X8_readArticle w q9 (nI (60 * j + a + n)) = (if cd (4 + R + 6 * b + 1) = 116 then RAB 0 w q9 (nI (60 * j + a + n)) else (if cd (4 + R + 6 * b + 1) = 98 then RAB 1 w q9 (nI (60 * j + a + n)) else (if cd (4 + R + 6 * b + 1) = 112 then RAB 2 w q9 (nI (60 * j + a + n)) else RAB (-9) w q9 (nI (60 * j + a + n))))) := by
      rw [RAB_eq, h6, if_neg (nI_ge (by omega) (by omega)), if_pos (inR_nI (by omega) (by decide)), nI_clamp (by omega), hq, hT.2.2.2.2 _ e]
    have step : ∀ z, z < 3 → f_X5_kindOf (cd (4 + R + 6 * b + 1)) = nI z → CF v r j a n R (4 + R + 6 * b + 1) = CF v r j a n R (4 + R + 6 * b + 2) := by
      intro z hz hk
      exact CF_go hT e (by rw [gart hR0 hR hb (by omega), ag1, hk, if_neg (nIm9 (by omega))])
    have main : ∀ z, z < 3 → f_X5_kindOf (cd (4 + R + 6 * b + 1)) = nI z → f_X8_readArticle w q9 (nI (60 * j + a + n)) = RAB (nI z) w q9 (nI (60 * j + a + n)) → _ := fun z hz hk hr => by
      have h := art_body (v := v) hT hR0 hR hb hz hq h9 h6 e
      rw [← hr, ← step z hz hk] at h
      exact (h : _)
    rcases kinds3 (cd (4 + R + 6 * b + 1)) with ⟨k1, k2⟩ | ⟨k0, k1, k2⟩ | ⟨k00, k0, k1, k2⟩ | ⟨k00, k0, k1, k2⟩
    · rcases main 0 (by omega) k2 (by rw [hre, if_pos k1]; rfl) with h | ⟨h1, w1, q1, h2⟩
      · exact Or.inl h
      · exact Or.inr ⟨h1, 0, w1, q1, by omega, k2, h2⟩
    · rcases main 1 (by omega) k2 (by rw [hre, if_neg k0, if_pos k1]; rfl) with h | ⟨h1, w1, q1, h2⟩
      · exact Or.inl h
      · exact Or.inr ⟨h1, 1, w1, q1, by omega, k2, h2⟩
    · rcases main 2 (by omega) k2 (by rw [hre, if_neg k00, if_neg k0, if_pos k1]; rfl) with h | ⟨h1, w1, q1, h2⟩
      · exact Or.inl h
      · exact Or.inr ⟨h1, 2, w1, q1, by omega, k2, h2⟩
    · left
      apply fail
      · rw [hre, if_neg k00, if_neg k0, if_neg k1]
      · exact CF_stop hT e (by rw [gart hR0 hR hb (by omega), ag1, k2, if_pos rfl])
