/-! all articles of the text, and the whole text -/
def AR (cd : Nat → Int32) (R i : Nat) : Prop := (∃ z, z < 3 ∧ f_X5_kindOf (cd (4 + R + 6 * i + 1)) = nI z) ∧ (∃ y, y ≤ 9 ∧ cd (4 + R + 6 * i + 2) - 48 = nI y) ∧ (∃ y, y ≤ 9 ∧ cd (4 + R + 6 * i + 3) - 48 = nI y) ∧ (∃ y, y ≤ 49 ∧ 10 * (cd (4 + R + 6 * i + 4) - 48) + (cd (4 + R + 6 * i + 5) - 48) = nI y)
def RW (cd : Nat → Int32) (R i : Nat) (x9 x10 x11 x12 : Nat → Int32) : Prop := x9 i = f_X5_kindOf (cd (4 + R + 6 * i + 1)) ∧ x10 i = cd (4 + R + 6 * i + 2) - 48 ∧ x11 i = cd (4 + R + 6 * i + 3) - 48 ∧ x12 i = 10 * (cd (4 + R + 6 * i + 4) - 48) + (cd (4 + R + 6 * i + 5) - 48)
theorem M_arts {v : V1} {r q : V2} {j a n R : Nat} {cd : Nat → Int32} (hT : TX j a n cd r q) (hR0 : 0 < R) (hR : R ≤ 4) : ∀ (k b fu : Nat) (w : V1) (q9 : V2), b + k = 6 → k < fu → q9 2 = q 2 → w 9 = nI b → w 6 = nI (60 * j + a + (4 + R + 6 * b)) → 4 + R + 6 * b ≤ n →
    (∃ p' w1 q1, f_X8_readCity_79 (nI (60 * j + a + n)) fu w q9 = some (false, (w1, q1)) ∧ w1 6 = nI (60 * j + a + p') ∧ CF v r j a n R (4 + R + 6 * b) = some (nI p') ∧ p' ≤ n ∧ FM w w1 q9 q1) ∨
    (∃ B w1 q1, b ≤ B ∧ 0 < B ∧ B ≤ 6 ∧ n = 4 + R + 6 * B ∧ f_X8_readCity_79 (nI (60 * j + a + n)) fu w q9 = some (true, (w1, q1)) ∧ CF v r j a n R (4 + R + 6 * b) = some (-9) ∧ w1 9 = nI B ∧ (∀ i, i ≠ 6 → i ≠ 9 → w1 i = w i) ∧ (∀ i, (i < 9 ∨ 12 < i) → q1 i = q9 i) ∧ (∀ i, i < b → q1 9 i = q9 9 i ∧ q1 10 i = q9 10 i ∧ q1 11 i = q9 11 i ∧ q1 12 i = q9 12 i) ∧ (∀ i, b ≤ i → i < B → RW cd R i (q1 9) (q1 10) (q1 11) (q1 12) ∧ AR cd R i)) := by
  intro k
  have hn := hT.1
  have hX := hT.2.1
  induction k with
  | zero =>
    intro b fu w q9 hb hf hq h9 h6 hp
    obtain ⟨f', rfl⟩ : ∃ f', fu = f' + 1 := ⟨fu - 1, by omega⟩
    have e : b = 6 := by omega
    subst e
    rw [f_X8_readCity_79_s, h9, if_neg (show ¬ nI 6 = 0 by decide), if_pos (show (6 : Int32) ≤ nI 6 by decide), h6]
    rcases Nat.eq_or_lt_of_le hp with h | h
    · right
      rw [if_pos (congrArg nI (by omega))]
      refine ⟨6, w, q9, by omega, by omega, by omega, h.symm, rfl, ?_, h9, fun _ _ _ => rfl, fun _ _ => rfl, fun _ _ => ⟨rfl, rfl, rfl, rfl⟩, fun i h1 h2 => by omega⟩
      rw [h, CF_end hn hR, if_pos (by omega)]
    · left
      rw [if_neg (fun z => by have := (nI_eq (by omega) (by omega)).mp z; omega)]
      exact ⟨4 + R + 6 * 6, w, q9, rfl, h6, CF_stop hT h (gover hR0 hR _), hp, fun _ _ _ _ _ => rfl, fun _ _ => rfl⟩
  | succ k ih =>
    intro b fu w q9 hb hf hq h9 h6 hp
    obtain ⟨f', rfl⟩ : ∃ f', fu = f' + 1 := ⟨fu - 1, by omega⟩
    have hb6 : b < 6 := by omega
    by_cases hend : 0 < b ∧ 4 + R + 6 * b = n
    · right
      obtain ⟨h0, h⟩ := hend
      rw [f_X8_readCity_79_s, h9, if_neg (nI_ne0 h0 (by omega)), if_neg (show ¬ (6 : Int32) ≤ nI b from nI_ge (a := b) (b := 6) hb6 (by decide)), h6, if_pos (nI_le (by omega) (by omega)), if_pos (congrArg nI (by omega))]
      refine ⟨b, w, q9, by omega, h0, by omega, h.symm, rfl, ?_, h9, fun _ _ _ => rfl, fun _ _ => rfl, fun _ _ => ⟨rfl, rfl, rfl, rfl⟩, fun i h1 h2 => by omega⟩
      rw [h, CF_end hn hR, if_pos (by omega)]
    · have hS : f_X8_readCity_79 (nI (60 * j + a + n)) (f' + 1) w q9 = (f_X8_isSign w q9 (nI (60 * j + a + n)) (59 : Int32)).bind (fun y12 => (if y12.1 = true then (f_X8_readArticle y12.2.1 y12.2.2 (nI (60 * j + a + n))).bind (fun y14 => (if y14.1 = true then f_X8_readCity_79 (nI (60 * j + a + n)) f' y14.2.1 y14.2.2 else some (false, (y14.2.1, y14.2.2)))) else some (false, (y12.2.1, y12.2.2)))) := by
        rcases Nat.eq_zero_or_pos b with h0 | h0
        · rw [f_X8_readCity_79_s, h9, if_pos (show nI b = 0 by rw [h0]; rfl)]
        · rw [f_X8_readCity_79_s, h9, if_neg (nI_ne0 h0 (by omega)), if_neg (show ¬ (6 : Int32) ≤ nI b from nI_ge (a := b) (b := 6) hb6 (by decide)), h6, if_neg (nI_ge (by omega) (by omega))]
      rw [hS]
      have hT9 : TX j a n cd r q9 := hT.c (fun _ _ => rfl) hq
      by_cases hsg : 4 + R + 6 * b < n ∧ cd (4 + R + 6 * b) = 59
      · obtain ⟨hlt, hsg⟩ := hsg
        have hgo : CF v r j a n R (4 + R + 6 * b) = CF v r j a n R (4 + R + 6 * b + 1) := CF_go hT hlt (by
          have := gart (s := 0) hR0 hR hb6 (by omega) (cd (4 + R + 6 * b))
          rw [Nat.add_zero] at this
          rw [this, ag0, if_pos hsg])
        rw [sign_t hT9 h6 hlt hsg, Option.bind_some]
        dsimp only
        rw [if_pos rfl, hgo]
        rcases M_art (v := v) hT hR0 hR hb6 (w := upd w 6 (nI (60 * j + a + (4 + R + 6 * b + 1)))) (q9 := q9) hq (by rw [pk_un (by decide), h9]) pk_us (by omega) with ⟨p', w1, q1, g1, g2, g3, g4, g5⟩ | ⟨g0, z, w1, q1, hz, hk, g1, g2, g3, g4, g5, g6, r9, r10, r11, r12, a1, a2, a3⟩
        · left
          rw [g1, Option.bind_some]
          dsimp only
          rw [if_neg Bool.false_ne_true]
          exact ⟨p', w1, q1, rfl, g2, g3, g4, fun i i1 i2 i3 i4 => by rw [g5.1 i i1 i2 i3 i4, pk_un i1], g5.2⟩
        · rw [g1, Option.bind_some]
          dsimp only
          rw [if_pos rfl, g4]
          have eP : 4 + R + 6 * b + 6 = 4 + R + 6 * (b + 1) := by omega
          rw [eP] at g0 g2 ⊢
          rcases ih (b + 1) f' w1 q1 (by omega) (by omega) (by rw [g6 2 (by omega), hq]) g3 g2 g0 with ⟨p', w2, q2, u1, u2, u3, u4, u5⟩ | ⟨B, w2, q2, u1, u2, u3, u4, u5, u6, u7, u8, u9, u10, u11⟩
          · left
            exact ⟨p', w2, q2, u1, u2, u3, u4, fun i i1 i2 i3 i4 => by rw [u5.1 i i1 i2 i3 i4, g5 i i1 i4, pk_un i1], fun i hi => by rw [u5.2 i hi, g6 i (by omega)]⟩
          · right
            refine ⟨B, w2, q2, by omega, u2, u3, u4, u5, u6, u7, fun i i1 i2 => by rw [u8 i i1 i2, g5 i i1 i2, pk_un i1], fun i hi => by rw [u9 i hi, g6 i hi], fun i hi => ?_, fun i h1 h2 => ?_⟩
            · obtain ⟨t1, t2, t3, t4⟩ := u10 i (by omega)
              rw [t1, t2, t3, t4, r9, r10, r11, r12, pk_un (by omega), pk_un (by omega), pk_un (by omega), pk_un (by omega)]
              exact ⟨rfl, rfl, rfl, rfl⟩
            · rcases Nat.eq_or_lt_of_le h1 with h | h
              · subst h
                obtain ⟨t1, t2, t3, t4⟩ := u10 b (by omega)
                refine ⟨⟨?_, ?_, ?_, ?_⟩, ⟨z, hz, hk⟩, a1, a2, a3⟩
                · rw [t1, r9, pk_us, hk]
                · rw [t2, r10, pk_us]
                · rw [t3, r11, pk_us]
                · rw [t4, r12, pk_us]
              · exact u11 i h h2
      · left
        rw [sign_f hT9 h6 hp (fun h1 h2 => hsg ⟨h1, h2⟩), Option.bind_some]
        dsimp only
        rw [if_neg Bool.false_ne_true]
        refine ⟨4 + R + 6 * b, w, q9, rfl, h6, ?_, hp, fun _ _ _ _ _ => rfl, fun _ _ => rfl⟩
        rcases Nat.eq_or_lt_of_le hp with h | h
        · rw [h, CF_end hn hR, if_neg (by omega)]
        · refine CF_stop hT h ?_
          have := gart (s := 0) hR0 hR hb6 (by omega) (cd (4 + R + 6 * b))
          rw [Nat.add_zero] at this
          rw [this, ag0, if_neg (fun z => hsg ⟨h, z⟩)]
theorem CF_e3 {v : V1} {r : V2} {j a n R p : Nat} (hn : n ≤ 60) (hR : R ≤ 4) (hp : p ≤ 4) (e : p = n) : CF v r j a n R p = some (nI p) := by
  subst e
  rw [CF_end hn hR, if_neg (by omega)]
theorem hs0 (code : Int32) : f_X5_headGoesOn (nI 0) code = (if code = 118 then true else false) := by
  unfold f_X5_headGoesOn
  rw [if_pos (show nI 0 = 0 by decide)]
theorem hs3 (code : Int32) : f_X5_headGoesOn (nI 3) code = (if code = 47 then true else false) := by
  unfold f_X5_headGoesOn
  rw [if_neg (show ¬ nI 3 = 0 by decide), if_pos (show nI 3 = 3 by decide)]
theorem hs1 (code : Int32) : f_X5_headGoesOn (nI 1) code = f_X5_isDigit code (nI 0) (nI 7) := by
  unfold f_X5_headGoesOn
  rw [if_neg (show ¬ nI 1 = 0 by decide), if_neg (show ¬ nI 1 = 3 by decide)]
  rfl
theorem hs2 (code : Int32) : f_X5_headGoesOn (nI 2) code = f_X5_isDigit code (nI 0) (nI 7) := by
  unfold f_X5_headGoesOn
  rw [if_neg (show ¬ nI 2 = 0 by decide), if_neg (show ¬ nI 2 = 3 by decide)]
  rfl
theorem hdstep {v : V1} {r q : V2} {j a n R p : Nat} {cd : Nat → Int32} (hT : TX j a n cd r q) (hR : R ≤ 4) (hp4 : p < 4) (hh : ∀ code, f_X5_headGoesOn (nI p) code = f_X5_isDigit code (nI 0) (nI 7)) {w : V1} (hw : w 6 = nI (60 * j + a + p)) (hp : p ≤ n) :
    (f_X8_digit w q (nI (60 * j + a + n)) (nI 0) (nI 7) = some (-9, (w, q)) ∧ CF v r j a n R p = some (nI p)) ∨
    (p < n ∧ ∃ z, z ≤ 7 ∧ cd p - 48 = nI z ∧ f_X8_digit w q (nI (60 * j + a + n)) (nI 0) (nI 7) = some (nI z, (upd w 6 (nI (60 * j + a + (p + 1))), q)) ∧ CF v r j a n R p = CF v r j a n R (p + 1)) := by
  have hn := hT.1
  rcases Nat.eq_or_lt_of_le hp with e | e
  · left
    exact ⟨dig_f hT hw hp (fun h => by omega), CF_e3 hn hR (by omega) e⟩
  · cases hd : f_X5_isDigit (cd p) (nI 0) (nI 7) with
    | false =>
      left
      exact ⟨dig_f hT hw hp (fun _ => hd), CF_stop hT e (by rw [ghead hp4, hh, hd])⟩
    | true =>
      right
      obtain ⟨z, hz, ez⟩ := dig_nat (by omega) (by omega) hd
      refine ⟨e, z, hz, ez, ?_, CF_go hT e (by rw [ghead hp4, hh, hd])⟩
      rw [dig_t hT hw e hd, ez]
theorem hsstep {v : V1} {r q : V2} {j a n R p : Nat} {cd : Nat → Int32} {sg : Int32} (hT : TX j a n cd r q) (hR : R ≤ 4) (hp4 : p < 4) (hh : ∀ code, f_X5_headGoesOn (nI p) code = (if code = sg then true else false)) {w : V1} (hw : w 6 = nI (60 * j + a + p)) (hp : p ≤ n) :
    (f_X8_isSign w q (nI (60 * j + a + n)) sg = some (false, (w, q)) ∧ CF v r j a n R p = some (nI p)) ∨
    (p < n ∧ f_X8_isSign w q (nI (60 * j + a + n)) sg = some (true, (upd w 6 (nI (60 * j + a + (p + 1))), q)) ∧ CF v r j a n R p = CF v r j a n R (p + 1)) := by
  have hn := hT.1
  rcases Nat.eq_or_lt_of_le hp with e | e
  · left
    exact ⟨sign_f hT hw hp (fun h => by omega), CF_e3 hn hR (by omega) e⟩
  · by_cases hd : cd p = sg
    · right
      exact ⟨e, sign_t hT hw e hd, CF_go hT e (by rw [ghead hp4, hh, if_pos hd])⟩
    · left
      exact ⟨sign_f hT hw hp (fun _ => hd), CF_stop hT e (by rw [ghead hp4, hh, if_neg hd])⟩
theorem CF_rooms {v : V1} {r q : V2} {j a n R : Nat} {cd : Nat → Int32} (hT : TX j a n cd r q) (hR : R ≤ 4) (hd : ∀ x, x < R → 4 + x < n ∧ f_X5_isDigit (cd (4 + x)) 1 9 = true) : ∀ m, m ≤ R → CF v r j a n R 4 = CF v r j a n R (4 + m)
  | 0, _ => rfl
  | m + 1, h => by
    rw [CF_rooms hT hR hd m (by omega)]
    exact CF_go hT (hd m (by omega)).1 (groom (by omega) hR _)
theorem M_read {v : V1} {r q : V2} {j a n R : Nat} {cd : Nat → Int32} (hT : TX j a n cd r q) (hR : R ≤ 4) (hd : ∀ x, x < R → 4 + x < n ∧ f_X5_isDigit (cd (4 + x)) 1 9 = true) (he : R < 4 → 4 + R < n → f_X5_isDigit (cd (4 + R)) 1 9 = false) {w : V1} (h6 : w 6 = nI (60 * j + a + 0)) :
    (∃ p' w1 q1, f_X8_readCity w q (nI (60 * j + a + n)) = some (false, (w1, q1)) ∧ w1 6 = nI (60 * j + a + p') ∧ CF v r j a n R 0 = some (nI p') ∧ p' ≤ n ∧ FM w w1 q q1) ∨
    (∃ B w1 q1 y1 y2, 0 < R ∧ 0 < B ∧ B ≤ 6 ∧ n = 4 + R + 6 * B ∧ f_X8_readCity w q (nI (60 * j + a + n)) = some (true, (w1, q1)) ∧ CF v r j a n R 0 = some (-9) ∧ y1 ≤ 7 ∧ y2 ≤ 7 ∧ cd 1 - 48 = nI y1 ∧ cd 2 - 48 = nI y2 ∧ w1 7 = nI (8 * y2 + y1) ∧ w1 8 = nI R ∧ w1 9 = nI B ∧ FM w w1 q q1 ∧ (∀ i, i < R → q1 8 i = cd (4 + i) - 48) ∧ (∀ i, i < B → RW cd R i (q1 9) (q1 10) (q1 11) (q1 12) ∧ AR cd R i)) := by
  have hn := hT.1
  unfold f_X8_readCity
  rcases hsstep (v := v) hT hR (by omega) hs0 h6 (Nat.zero_le n) with ⟨a1, a2⟩ | ⟨a0, a1, a2⟩
  · left
    rw [a1, Option.bind_some]
    dsimp only
    rw [if_neg Bool.false_ne_true]
    exact ⟨0, w, q, rfl, h6, a2, by omega, fun _ _ _ _ _ => rfl, fun _ _ => rfl⟩
  rw [a1, Option.bind_some, a2]
  dsimp only
  rw [if_pos rfl]
  rcases hdstep (v := v) hT hR (by omega) hs1 (w := upd w 6 (nI (60 * j + a + (0 + 1)))) (p := 1) pk_us (by omega) with ⟨b1, b2⟩ | ⟨b0, y1, hy1, ey1, b1, b2⟩
  · left
    rw [show f_X8_digit _ _ _ 0 7 = _ from b1, Option.bind_some]
    dsimp only
    rw [if_pos rfl]
    exact ⟨1, _, q, rfl, pk_us, b2, by omega, fun i i1 _ _ _ => pk_un i1, fun _ _ => rfl⟩
  rw [show f_X8_digit _ _ _ 0 7 = _ from b1, Option.bind_some]
  dsimp only
  rw [if_neg (nIm9 (a := y1) (by omega)), show CF v r j a n R (0 + 1) = _ from b2]
  rcases hdstep (v := v) hT hR (by omega) hs2 (w := upd (upd w 6 (nI (60 * j + a + (0 + 1)))) 6 (nI (60 * j + a + (1 + 1)))) (p := 2) pk_us (by omega) with ⟨c1, c2⟩ | ⟨c0, y2, hy2, ey2, c1, c2⟩
  · left
    rw [show f_X8_digit _ _ _ 0 7 = _ from c1, Option.bind_some]
    dsimp only
    rw [if_pos rfl]
    exact ⟨2, _, q, rfl, (pk_un (by decide)).trans pk_us, c2, by omega, fun i i1 i2 _ _ => by rw [pk_un i2, pk_un i1, pk_un i1], fun _ _ => rfl⟩
  rw [show f_X8_digit _ _ _ 0 7 = _ from c1, Option.bind_some]
  dsimp only
  rw [if_neg (nIm9 (a := y2) (by omega)), show CF v r j a n R (1 + 1) = _ from c2]
  have ek : (8 : Int32) * nI y2 + nI y1 = nI (8 * y2 + y1) := by
    show nI 8 * nI y2 + nI y1 = _
    rw [pk_mul, nI_add]
  rw [ek]
  generalize hW : upd (upd (upd (upd w 6 (nI (60 * j + a + (0 + 1)))) 6 (nI (60 * j + a + (1 + 1)))) 6 (nI (60 * j + a + (2 + 1)))) 7 (nI (8 * y2 + y1)) = W
  have hWa : ∀ i, i ≠ 6 → i ≠ 7 → W i = w i := fun i i1 i2 => by rw [← hW, pk_un i2, pk_un i1, pk_un i1, pk_un i1]
  have hW7 : W 7 = nI (8 * y2 + y1) := by rw [← hW, pk_us]
  have hW6 : W 6 = nI (60 * j + a + 3) := by rw [← hW]; exact (pk_un (by decide)).trans pk_us
  rcases hsstep (v := v) hT hR (by omega) hs3 (w := W) (p := 3) hW6 (by omega) with ⟨d1, d2⟩ | ⟨d0, d1, d2⟩
  · left
    rw [d1, Option.bind_some]
    dsimp only
    rw [if_neg Bool.false_ne_true]
    exact ⟨3, W, q, rfl, hW6, d2, by omega, fun i i1 i2 _ _ => hWa i i1 i2, fun _ _ => rfl⟩
  rw [d1, Option.bind_some]
  dsimp only
  rw [if_pos rfl, show CF v r j a n R (2 + 1) = _ from d2]
  unfold f_X8_readTheRooms
  obtain ⟨w1, q1, e1, e2, e3, e4, e5, e6, e7⟩ := M_rooms hT (by omega) hR hd he R 0 80 (upd (upd W 6 (nI (60 * j + a + (3 + 1)))) 8 0) q (by omega) (by omega) rfl ((pk_un (by decide)).trans pk_us) pk_us
  rw [e1, Option.bind_some, show CF v r j a n R (3 + 1) = _ from CF_rooms hT hR hd R (Nat.le_refl R)]
  dsimp only
  rcases Nat.eq_zero_or_pos R with hR0 | hR0
  · left
    subst hR0
    rw [if_neg (by decide)]
    refine ⟨4, w1, q1, rfl, e4, ?_, by omega, fun i i1 i2 i3 i4 => by rw [e2 i i1 i3, pk_un i3, pk_un i1, hWa i i1 i2], fun i hi => e3 i (by omega)⟩
    rcases Nat.eq_or_lt_of_le (show 4 ≤ n by omega) with h | h
    · exact CF_e3 hn hR (by omega) h
    · exact CF_stop hT h (gzero _)
  · rw [if_pos (decide_eq_true hR0)]
    have hRn : 4 + R ≤ n := by
      have := (hd (R - 1) (by omega)).1
      omega
    have hf1 : FM w w1 q q1 := ⟨fun i i1 i2 i3 i4 => by rw [e2 i i1 i3, pk_un i3, pk_un i1, hWa i i1 i2], fun i hi => e3 i (by omega)⟩
    rcases M_arts (v := v) hT hR0 hR 6 0 80 (upd w1 9 0) q1 (by omega) (by omega) (e3 2 (by decide)) pk_us (by rw [pk_un (by decide), e4]; rfl) hRn with ⟨p', w2, q2, u1, u2, u3, u4, u5⟩ | ⟨B, w2, q2, u1, u2, u3, u4, u5, u6, u7, u8, u9, u10, u11⟩
    · left
      exact ⟨p', w2, q2, u1, u2, u3, u4, fun i i1 i2 i3 i4 => by rw [u5.1 i i1 i2 i3 i4, pk_un i4, hf1.1 i i1 i2 i3 i4], fun i hi => by rw [u5.2 i hi, hf1.2 i hi]⟩
    · right
      refine ⟨B, w2, q2, y1, y2, hR0, u2, u3, u4, u5, u6, hy1, hy2, ey1, ey2, ?_, ?_, u7, ⟨fun i i1 i2 i3 i4 => by rw [u8 i i1 i4, pk_un i4, hf1.1 i i1 i2 i3 i4], fun i hi => by rw [u9 i (by omega), hf1.2 i hi]⟩, fun i hi => ?_, fun i hi => u11 i (by omega) hi⟩
      · rw [u8 7 (by decide) (by decide), pk_un (by decide), e2 7 (by decide) (by decide), pk_un (by decide), pk_un (by decide), hW7]
      · rw [u8 8 (by decide) (by decide), pk_un (by decide), e5]
      · rw [u9 8 (by omega), e7 i (by omega) hi]
