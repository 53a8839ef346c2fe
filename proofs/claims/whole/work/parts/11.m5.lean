/-! packs: the reference, and call 14 -/
theorem pack7 (v : V1) (a1 : Int32) : ∀ (n x fu : Nat) (r : V2), x + n = 4 → n < fu → ∃ r1, f_X2_pack_7 a1 fu (nI x) v r = f_X2_pack_27 a1 80 0 v r1 ∧ (∀ i, i ≠ 7 → r1 i = r i) ∧ (∀ i, i < x → r1 7 i = r 7 i) ∧ (∀ i, x ≤ i → i < 4 → r1 7 i = 0) := by
  intro n
  induction n with
  | zero =>
    intro x fu r hx hf
    obtain ⟨f', rfl⟩ : ∃ f', fu = f' + 1 := ⟨fu - 1, by omega⟩
    have e : x = 4 := by omega
    subst e
    refine ⟨r, ?_, fun _ _ => rfl, fun _ _ => rfl, fun i h1 h2 => by omega⟩
    rw [f_X2_pack_7_s, if_pos (show (4 : Int32) ≤ nI 4 by decide)]
  | succ n ih =>
    intro x fu r hx hf
    obtain ⟨f', rfl⟩ : ∃ f', fu = f' + 1 := ⟨fu - 1, by omega⟩
    have h9 : ¬ (4 : Int32) ≤ nI x := nI_ge (a := x) (b := 4) (by omega) (by omega)
    have hi := inR_nI (k := x) (N := 4) (by omega) (by decide)
    obtain ⟨r1, e1, e2, e3, e4⟩ := ih (x + 1) f' (va_up r 7 (upd (r 7) x 0)) (by omega) (by omega)
    refine ⟨r1, ?_, fun i h => ?_, fun i h => ?_, fun i h1 h2 => ?_⟩
    · rw [f_X2_pack_7_s, if_neg h9, if_pos hi, cl4 (by omega), nI_1, e1]
    · rw [e2 i h, va_up_ne _ _ h]
    · rw [e3 i (by omega), va_up_self, pk_un (by omega)]
    · rcases Nat.eq_or_lt_of_le h1 with h | h
      · subst h
        rw [e3 x (by omega), va_up_self, pk_us]
      · exact e4 i h h2
theorem pack27 (v : V1) (a1 : Int32) : ∀ (n x fu : Nat) (r : V2), x + n = 6 → n < fu → ∃ r1, f_X2_pack_27 a1 fu (nI x) v r = (f_X2_placeFrom 8 v r1 0 a1).bind (fun y3 => some ((y3.1, y3.2))) ∧ (∀ i, i ≠ 8 → i ≠ 9 → r1 i = r i) ∧ (∀ i, i < x → r1 8 i = r 8 i ∧ r1 9 i = r 9 i) ∧ (∀ i, x ≤ i → i < 6 → r1 8 i = -9 ∧ r1 9 i = -9) := by
  intro n
  induction n with
  | zero =>
    intro x fu r hx hf
    obtain ⟨f', rfl⟩ : ∃ f', fu = f' + 1 := ⟨fu - 1, by omega⟩
    have e : x = 6 := by omega
    subst e
    refine ⟨r, ?_, fun _ _ _ => rfl, fun _ _ => ⟨rfl, rfl⟩, fun i h1 h2 => by omega⟩
    rw [f_X2_pack_27_s, if_pos (show (6 : Int32) ≤ nI 6 by decide)]
  | succ n ih =>
    intro x fu r hx hf
    obtain ⟨f', rfl⟩ : ∃ f', fu = f' + 1 := ⟨fu - 1, by omega⟩
    have h9 : ¬ (6 : Int32) ≤ nI x := nI_ge (a := x) (b := 6) (by omega) (by omega)
    have hi := inR_nI (k := x) (N := 6) (by omega) (by decide)
    obtain ⟨r1, e1, e2, e3, e4⟩ := ih (x + 1) f' (va_up (va_up r 8 (upd (r 8) x (-9))) 9 (upd ((va_up r 8 (upd (r 8) x (-9))) 9) x (-9))) (by omega) (by omega)
    refine ⟨r1, ?_, fun i h h' => ?_, fun i h => ⟨?_, ?_⟩, fun i h1 h2 => ?_⟩
    · rw [f_X2_pack_27_s, if_neg h9, if_pos hi, if_pos hi, cl6 (by omega), nI_1, e1]
    · rw [e2 i h h', va_up_ne _ _ h', va_up_ne _ _ h]
    · rw [(e3 i (by omega)).1, va_up_ne _ _ (by decide), va_up_self, pk_un (by omega)]
    · rw [(e3 i (by omega)).2, va_up_self, pk_un (by omega), va_up_ne _ _ (by decide)]
    · rcases Nat.eq_or_lt_of_le h1 with h | h
      · subst h
        rw [(e3 x (by omega)).1, (e3 x (by omega)).2, va_up_ne _ _ (by decide), va_up_self, pk_us, va_up_self, pk_us]
        exact ⟨rfl, rfl⟩
      · exact e4 i h h2
theorem C_pack {d c S : Nat} {bl sl : Nat → Nat} {bk sp : Nat → Int32} {v : V1} {r : V2} (hd : 0 < d) (hd4 : d ≤ 4) (hc : c ≤ 6) (hS : S < 2 ^ c) (hbl : ∀ j, bl j ≤ 9 ∧ bk j = nI (bl j)) (hsl : ∀ j, sl j ≤ 9 ∧ sp j = nI (sl j)) (c2 : v 2 = nI c) (c3 : v 3 = nI d) (r1' : r 1 = bk) (r4 : r 4 = sp) : ∃ v1 r1, f_X2_pack v r (nI S) = some (v1, r1) ∧ FR v r v1 r1 ∧ v1 7 = nI (iter (vis d c S bl sl) 0 (DA d c S 0) (0, fun _ => -9)).1 ∧ (∀ i, i < 6 → r1 9 i = (iter (vis d c S bl sl) 0 (DA d c S 0) (0, fun _ => -9)).2 i) := by
  unfold f_X2_pack
  obtain ⟨ra, a1, a2, a3, a4⟩ := pack7 (upd v 7 0) (nI S) 4 0 80 r (by omega) (by omega)
  obtain ⟨rb, b1, b2, b3, b4⟩ := pack27 (upd v 7 0) (nI S) 6 0 80 ra (by omega) (by omega)
  rw [nI_0] at a1 b1
  have hD : DA d c S 0 ≤ 4 ^ 6 := Nat.le_trans (DR_le c S hd4 (c - 0)) (Nat.pow_le_pow_right (by decide) (by omega))
  obtain ⟨v1, r1, e1, e2, p2, p3, p1', p4, p7, p9, q7, q8⟩ := place hd hd4 hc hS hbl hsl c 0 8 (upd v 7 0) rb (0, fun _ => -9) 0 (by omega) (by omega) (Nat.dvd_zero _) ⟨by rw [pk_un (by decide), c2], by rw [pk_un (by decide), c3], by rw [b2 1 (by decide) (by decide), a2 1 (by decide), r1'], by rw [b2 4 (by decide) (by decide), a2 4 (by decide), r4], by rw [pk_us]; rfl, fun i hi => (b4 i (by omega) hi).2, fun k hk => by rw [b2 7 (by decide) (by decide), a4 k (by omega) (by omega)]; rfl, fun i hi h => by
    rcases h with h | h
    · omega
    · rw [(b4 i (by omega) hi).1]
      unfold RM
      rw [h, if_neg Bool.false_ne_true]⟩ (fun k hk => Nat.zero_le _) (by show 0 + DA d c S 0 < _; omega)
  rw [nI_0] at e1
  refine ⟨v1, r1, ?_, ⟨fun i h => ?_, fun i h1 h2 h3 => ?_⟩, p7, p9⟩
  · rw [a1, b1, e1, Option.bind_some]
  · rw [e2.1 i h, pk_un h]
  · rw [e2.2 i h1 h2 h3, b2 i h2 h3, a2 i h1]
theorem m1i (x : Int32) : x + (-1) = x - 1 := (Int32.sub_eq_add_neg x 1).symm
theorem h110 {d : Nat} {L sl : Nat → Nat} {sp : Nat → Int32} {w : V1} {q : V2} (hd4 : d ≤ 4) (w3 : w 3 = nI d) (q3 : q 3 = sp) (hsl : ∀ j, sl j ≤ 9 ∧ sp j = nI (sl j)) (hL : ∀ k, k < d → q 15 k = nI (L k)) (hL2 : ∀ k, L k < 2 ^ 31) (a1 a2 : Int32) : ∀ (n x fu : Nat), x + n = d → n < fu → f_X8_holds_110 a1 a2 fu (nI x) w q = some (allb (fun k => decide (L k ≤ sl k)) n x, (w, q)) := by
  intro n
  induction n with
  | zero =>
    intro x fu hx hf
    obtain ⟨f', rfl⟩ : ∃ f', fu = f' + 1 := ⟨fu - 1, by omega⟩
    rw [f_X8_holds_110_s, w3, if_pos (nI_le (by omega) (by omega))]
    rfl
  | succ n ih =>
    intro x fu hx hf
    obtain ⟨f', rfl⟩ : ∃ f', fu = f' + 1 := ⟨fu - 1, by omega⟩
    have hi := inR_nI (k := x) (N := 4) (by omega) (by decide)
    have h9 := (hsl x).1
    rw [f_X8_holds_110_s, w3, if_neg (nI_ge (by omega) (by omega)), if_pos hi, if_pos hi, cl4 (by omega), q3, (hsl x).2, hL x (by omega)]
    show _ = some (decide (L x ≤ sl x) && allb _ n (x + 1), (w, q))
    by_cases h : L x ≤ sl x
    · rw [if_pos (nI_le h (by omega)), nI_1, ih (x + 1) f' (by omega) (by omega), decide_eq_true h, Bool.true_and]
    · rw [if_neg (fun z => h ((nI_leI (hL2 x) (by omega)).mp z)), decide_eq_false h, Bool.false_and]
theorem h36 {d c S N : Nat} {bl : Nat → Nat} {bk : Nat → Int32} {w : V1} (hd : 0 < d) (hd4 : d ≤ 4) (hc : c ≤ 6) (hS : S < 2 ^ c) (hbl : ∀ j, bl j ≤ 9 ∧ bk j = nI (bl j)) (w3 : w 3 = nI d) (hN : N < 2 ^ 31) (a2 : Int32) : ∀ (n fu : Nat) (q : V2), n ≤ c → n < fu → q 5 = bk → (∀ k, k < d → q 15 k = nI (LU d c S bl N (c - n) k)) → (∀ i, n ≤ i → i < c → q 13 i = RM d c S N i) → ∃ q1, f_X8_holds_36 (nI S) a2 fu (nI (N / DA d c S n)) (nI n - 1) w q = f_X8_holds_110 (nI S) a2 80 0 w q1 ∧ (∀ i, i ≠ 13 → i ≠ 15 → q1 i = q i) ∧ (∀ k, k < d → q1 15 k = nI (LU d c S bl N c k)) ∧ (∀ i, i < c → q1 13 i = RM d c S N i) := by
  intro n
  induction n with
  | zero =>
    intro fu q hn hf q5 h15 h13
    obtain ⟨f', rfl⟩ : ∃ f', fu = f' + 1 := ⟨fu - 1, by omega⟩
    refine ⟨q, ?_, fun _ _ _ => rfl, h15, fun i hi => h13 i (by omega) hi⟩
    rw [f_X8_holds_36_s, if_pos (show nI 0 - 1 < 0 by decide)]
  | succ a ih =>
    intro fu q hn hf q5 h15 h13
    obtain ⟨f', rfl⟩ : ∃ f', fu = f' + 1 := ⟨fu - 1, by omega⟩
    have ha6 : a < 6 := by omega
    have hia := inR_nI (k := a) (N := 6) ha6 (by decide)
    have hS64 := p64 hc hS
    have eD := DA_s (d := d) (S := S) (a := a) (c := c) (by omega)
    have hLU : ∀ k, LU d c S bl N (c - a) k = LU d c S bl N (c - (a + 1)) k + tm d c S bl N a k := by
      intro k
      rw [show c - a = (c - (a + 1)) + 1 by omega]
      show LU d c S bl N (c - (a + 1)) k + tm d c S bl N (c - (c - (a + 1) + 1)) k = _
      rw [show c - (c - (a + 1) + 1) = a by omega]
    rw [f_X8_holds_36_s, nI_pred, if_neg (nI_pos (by omega)), if_pos hia, isOf8, hasb hS64 ha6, cl6 ha6, m1i]
    cases hs : S.testBit a with
    | false =>
      rw [hs, if_neg Bool.false_ne_true] at eD
      rw [if_neg Bool.false_ne_true, ← eD]
      obtain ⟨q1, e1, e2, e3, e4⟩ := ih f' (va_up q 13 (upd (q 13) a (-9))) (by omega) (by omega) (by rw [va_up_ne _ _ (by decide), q5]) (fun k hk => by
        rw [va_up_ne _ _ (by decide), h15 k hk, hLU]
        unfold tm
        rw [hs]
        rfl) (fun i h1 h2 => by
        rw [va_up_self]
        by_cases e : i = a
        · subst e
          rw [pk_us]
          unfold RM
          rw [hs, if_neg Bool.false_ne_true]
        · rw [pk_un e, h13 i (by omega) h2])
      exact ⟨q1, e1, fun i h1 h2 => by rw [e2 i h1 h2, va_up_ne _ _ h1], e3, e4⟩
    | true =>
      rw [hs, if_pos rfl] at eD
      have hX : N / DA d c S (a + 1) < 2 ^ 31 := Nat.lt_of_le_of_lt (Nat.div_le_self _ _) hN
      have e3 : nI (N / DA d c S (a + 1)) / nI d = nI (N / DA d c S a) := by
        rw [pk_div hX hd (by omega), eD, Nat.mul_comm, Nat.div_div_eq_div_mul]
      have e4 : nI (N / DA d c S (a + 1)) - nI (N / DA d c S a) * nI d = nI (dg d c S N a) := by
        have h1 : N / DA d c S a = N / DA d c S (a + 1) / d := by rw [eD, Nat.mul_comm, Nat.div_div_eq_div_mul]
        rw [h1, pk_mul, pk_sub (Nat.div_mul_le_self _ _)]
        unfold dg
        congr 1
        have h2 := Nat.div_add_mod (N / DA d c S (a + 1)) d
        rw [Nat.mul_comm] at h2
        omega
      have hdg : dg d c S N a < d := Nat.mod_lt _ hd
      have hig := inR_nI (k := dg d c S N a) (N := 4) (by omega) (by decide)
      rw [if_pos rfl, w3, if_neg (nI_ne0 hd (by omega)), if_neg (nI_ne0 hd (by omega)), if_pos hia, if_pos hia, if_pos hia, e3, e4, va_up_self, pk_us, if_pos hig, if_pos hig, cl4 (by omega), va_up_ne (j := 15) _ _ (by decide), va_up_ne (j := 15) _ _ (by decide), va_up_ne (j := 5) _ _ (by decide), va_up_ne (j := 5) _ _ (by decide), q5, (hbl a).2, h15 _ hdg, nI_add]
      obtain ⟨q1, g1, g2, g3, g4⟩ := ih f' (va_up (va_up (va_up q 13 (upd (q 13) a (-9))) 13 (upd (va_up q 13 (upd (q 13) a (-9)) 13) a (nI (dg d c S N a)))) 15 (upd (q 15) (dg d c S N a) (nI (LU d c S bl N (c - (a + 1)) (dg d c S N a) + bl a)))) (by omega) (by omega) (by rw [va_up_ne _ _ (by decide), va_up_ne _ _ (by decide), va_up_ne _ _ (by decide), q5]) (fun k hk => by
        rw [va_up_self, hLU]
        unfold tm
        rw [hs, Bool.true_and]
        by_cases e : dg d c S N a = k
        · subst e
          rw [pk_us, decide_eq_true rfl, if_pos rfl]
        · rw [pk_un (fun z => e z.symm), h15 k hk, decide_eq_false e, if_neg Bool.false_ne_true]; rfl) (fun i h1 h2 => by
        rw [va_up_ne _ _ (by decide), va_up_self, va_up_self]
        by_cases e : i = a
        · subst e
          rw [pk_us]
          unfold RM
          rw [if_pos hs]
        · rw [pk_un e, pk_un e, h13 i (by omega) h2])
      refine ⟨q1, ?_, fun i h1 h2 => by rw [g2 i h1 h2, va_up_ne _ _ h2, va_up_ne _ _ h1, va_up_ne _ _ h1], g3, g4⟩
      rw [← g1]
theorem h5 {d : Nat} {w : V1} (hd4 : d ≤ 4) (w3 : w 3 = nI d) (a1 a2 x3 : Int32) : ∀ (n x fu : Nat) (q : V2), x + n = d → n < fu → ∃ q1, f_X8_holds_5 a1 a2 fu x3 (nI x) w q = f_X8_holds_36 a1 a2 80 x3 (w 4 - 1) w q1 ∧ (∀ i, i ≠ 15 → q1 i = q i) ∧ (∀ i, i < x → q1 15 i = q 15 i) ∧ (∀ i, x ≤ i → i < d → q1 15 i = 0) := by
  intro n
  induction n with
  | zero =>
    intro x fu q hx hf
    obtain ⟨f', rfl⟩ : ∃ f', fu = f' + 1 := ⟨fu - 1, by omega⟩
    refine ⟨q, ?_, fun _ _ => rfl, fun _ _ => rfl, fun i h1 h2 => by omega⟩
    rw [f_X8_holds_5_s, w3, if_pos (nI_le (by omega) (by omega))]
  | succ n ih =>
    intro x fu q hx hf
    obtain ⟨f', rfl⟩ : ∃ f', fu = f' + 1 := ⟨fu - 1, by omega⟩
    have hi := inR_nI (k := x) (N := 4) (by omega) (by decide)
    obtain ⟨q1, e1, e2, e3, e4⟩ := ih (x + 1) f' (va_up q 15 (upd (q 15) x 0)) (by omega) (by omega)
    refine ⟨q1, ?_, fun i h => ?_, fun i h => ?_, fun i h1 h2 => ?_⟩
    · rw [f_X8_holds_5_s, w3, if_neg (nI_ge (by omega) (by omega)), if_pos hi, cl4 (by omega), nI_1, e1]
    · rw [e2 i h, va_up_ne _ _ h]
    · rw [e3 i (by omega), va_up_self, pk_un (by omega)]
    · rcases Nat.eq_or_lt_of_le h1 with h | h
      · subst h
        rw [e3 x (by omega), va_up_self, pk_us]
      · exact e4 i h h2
theorem M_holds {d c S N : Nat} {bl sl : Nat → Nat} {bk sp : Nat → Int32} {w : V1} {q : V2} (hd : 0 < d) (hd4 : d ≤ 4) (hc : c ≤ 6) (hS : S < 2 ^ c) (hbl : ∀ j, bl j ≤ 9 ∧ bk j = nI (bl j)) (hsl : ∀ j, sl j ≤ 9 ∧ sp j = nI (sl j)) (w3 : w 3 = nI d) (w4 : w 4 = nI c) (q5 : q 5 = bk) (q3 : q 3 = sp) (hN : N < 2 ^ 31) : ∃ q1, f_X8_holds w q (nI S) (nI N) = some (okN d c S bl sl N, (w, q1)) ∧ (∀ i, i ≠ 13 → i ≠ 15 → q1 i = q i) ∧ (∀ i, i < c → q1 13 i = RM d c S N i) := by
  unfold f_X8_holds
  obtain ⟨qa, a1, a2, a3, a4⟩ := h5 hd4 w3 (nI S) (nI N) (nI N) d 0 80 q (by omega) (by omega)
  rw [nI_0] at a1
  obtain ⟨qb, b1, b2, b3, b4⟩ := h36 hd hd4 hc hS hbl w3 hN (nI N) c 80 qa (Nat.le_refl c) (by omega) (by rw [a2 5 (by decide), q5]) (fun k hk => by rw [a4 k (by omega) hk, Nat.sub_self]; rfl) (fun i h1 h2 => by omega)
  rw [DA_c, Nat.div_one] at b1
  have hLL : ∀ k, LU d c S bl N c k = LD d c S bl N c k := by
    intro k
    have h := LD_LU (d := d) (c := c) (S := S) (bl := bl) (N := N) (k := k) c (Nat.le_refl c)
    rw [Nat.sub_self] at h
    have h0 : LD d c S bl N 0 k = 0 := rfl
    omega
  have e := h110 (L := fun k => LD d c S bl N c k) hd4 w3 (q := qb) (by rw [b2 3 (by decide) (by decide), a2 3 (by decide), q3]) hsl (fun k hk => by rw [b3 k hk, hLL]) (fun k => by
    have := LU_le (d := d) (c := c) (S := S) (fun j => (hbl j).1) (N := N) (k := k) c
    rw [hLL] at this
    omega) (nI S) (nI N) d 0 80 (by omega) (by omega)
  rw [nI_0] at e
  refine ⟨qb, ?_, fun i h1 h2 => by rw [b2 i h1 h2, a2 i h2], b4⟩
  rw [a1, w4, b1, e]
  rfl
theorem fp58 {c : Nat} {w : V1} (hc : c ≤ 6) (w4 : w 4 = nI c) (K : Int32 → Int32 → V1 → V2 → Option ST) (a1 x2 x3 : Int32) : ∀ (n x fu : Nat) (q : V2), x + n = c → n < fu → ∃ q1, f_X8_findPacks_58 K a1 fu x2 x3 (nI x) w q = K x2 (x3 + 1) w q1 ∧ (∀ i, i ≠ 14 → q1 i = q i) ∧ (∀ i, i < x → q1 14 i = q 14 i) ∧ (w 12 = 1 → ∀ i, x ≤ i → i < c → q1 14 i = q 13 i) ∧ (¬ w 12 = 1 → q1 = q) := by
  intro n
  induction n with
  | zero =>
    intro x fu q hx hf
    obtain ⟨f', rfl⟩ : ∃ f', fu = f' + 1 := ⟨fu - 1, by omega⟩
    refine ⟨q, ?_, fun _ _ => rfl, fun _ _ => rfl, fun _ i h1 h2 => by omega, fun _ => rfl⟩
    rw [f_X8_findPacks_58_s, w4, if_pos (nI_le (by omega) (by omega))]
  | succ n ih =>
    intro x fu q hx hf
    obtain ⟨f', rfl⟩ : ∃ f', fu = f' + 1 := ⟨fu - 1, by omega⟩
    have hi := inR_nI (k := x) (N := 6) (by omega) (by decide)
    rw [f_X8_findPacks_58_s, w4, if_neg (nI_ge (by omega) (by omega))]
    by_cases h1 : w 12 = 1
    · rw [if_pos h1, if_pos hi, if_pos hi, cl6 (by omega), nI_1]
      obtain ⟨q1, e1, e2, e3, e4, e5⟩ := ih (x + 1) f' (va_up q 14 (upd (q 14) x (q 13 x))) (by omega) (by omega)
      refine ⟨q1, e1, fun i h => by rw [e2 i h, va_up_ne _ _ h], fun i h => by rw [e3 i (by omega), va_up_self, pk_un (by omega)], fun _ i g1 g2 => ?_, fun h => absurd h1 h⟩
      rcases Nat.eq_or_lt_of_le g1 with h | h
      · subst h
        rw [e3 x (by omega), va_up_self, pk_us]
      · rw [e4 h1 i h g2, va_up_ne _ _ (by decide)]
    · rw [if_neg h1]
      exact ⟨q, rfl, fun _ _ => rfl, fun _ _ => rfl, fun h => absurd h h1, fun _ => rfl⟩
def PM (w w9 : V1) (q q9 : V2) (c : Nat) (st : Nat × (Nat → Int32)) : Prop := (∀ i, i ≠ 12 → w9 i = w i) ∧ (∀ i, i ≠ 13 → i ≠ 14 → i ≠ 15 → q9 i = q i) ∧ w9 12 = nI st.1 ∧ (0 < st.1 → ∀ i, i < c → q9 14 i = st.2 i)
theorem fp31 {d c S T : Nat} {bl sl : Nat → Nat} {bk sp : Nat → Int32} {w : V1} {q : V2} (hd : 0 < d) (hd4 : d ≤ 4) (hc : c ≤ 6) (hS : S < 2 ^ c) (hbl : ∀ j, bl j ≤ 9 ∧ bk j = nI (bl j)) (hsl : ∀ j, sl j ≤ 9 ∧ sp j = nI (sl j)) (w3 : w 3 = nI d) (w4 : w 4 = nI c) (q5 : q 5 = bk) (q3 : q 3 = sp) (hT : T < 2 ^ 30) : ∀ (n x fu : Nat) (w9 : V1) (q9 : V2) (st : Nat × (Nat → Int32)), x + n = T → n < fu → PM w w9 q q9 c st → st.1 + n < 2 ^ 30 → ∃ w1 q1, f_X8_findPacks_31 (nI S) fu (nI T) (nI x) w9 q9 = some (w1, q1) ∧ PM w w1 q q1 c (iter (vis d c S bl sl) x n st) := by
  intro n
  induction n with
  | zero =>
    intro x fu w9 q9 st hx hf hP hst
    obtain ⟨f', rfl⟩ : ∃ f', fu = f' + 1 := ⟨fu - 1, by omega⟩
    refine ⟨w9, q9, ?_, hP⟩
    rw [f_X8_findPacks_31_s, if_pos (nI_le (by omega) (by omega))]
  | succ n ih =>
    intro x fu w9 q9 st hx hf hP hst
    obtain ⟨f', rfl⟩ : ∃ f', fu = f' + 1 := ⟨fu - 1, by omega⟩
    obtain ⟨p1, p2, p3, p4⟩ := id hP
    obtain ⟨qa, a1, a2, a3⟩ := M_holds (N := x) (w := w9) (q := q9) hd hd4 hc hS hbl hsl (by rw [p1 3 (by decide), w3]) (by rw [p1 4 (by decide), w4]) (by rw [p2 5 (by decide) (by decide) (by decide), q5]) (by rw [p2 3 (by decide) (by decide) (by decide), q3]) (by omega)
    rw [f_X8_findPacks_31_s, if_neg (nI_ge (by omega) (by omega)), a1, Option.bind_some]
    dsimp only
    show ∃ w1 q1, _ ∧ PM w w1 q q1 c (iter (vis d c S bl sl) (x + 1) n (vis d c S bl sl x st))
    cases hok : okN d c S bl sl x with
    | false =>
      have e : vis d c S bl sl x st = st := by
        unfold vis
        rw [hok, if_neg Bool.false_ne_true]
      rw [if_neg Bool.false_ne_true, nI_1, e]
      exact ih (x + 1) f' w9 qa st (by omega) (by omega) ⟨p1, fun i h1 h2 h3 => by rw [a2 i h1 h3, p2 i h1 h2 h3], p3, fun h i hi => by rw [a2 14 (by decide) (by decide), p4 h i hi]⟩ (by omega)
    | true =>
      rw [if_pos rfl, p3, nI_1]
      obtain ⟨qb, b1, b2, b3, b4, b5⟩ := fp58 (w := upd w9 12 (nI (st.1 + 1))) hc (by rw [pk_un (by decide), p1 4 (by decide), w4]) (fun z0 z1 z2 z3 => f_X8_findPacks_31 (nI S) f' z0 z1 z2 z3) (nI S) (nI T) (nI x) c 0 80 qa (by omega) (by omega)
      rw [nI_0] at b1
      rw [b1, nI_1]
      have hPn : PM w (upd w9 12 (nI (st.1 + 1))) q qb c (vis d c S bl sl x st) := by
        unfold vis
        rw [hok, if_pos rfl]
        by_cases h0 : st.1 = 0
        · rw [if_pos h0]
          refine ⟨fun i hi => by rw [pk_un hi, p1 i hi], fun i h1 h2 h3 => by rw [b2 i h2, a2 i h1 h3, p2 i h1 h2 h3], by rw [pk_us, h0], fun _ i hi => ?_⟩
          rw [b4 (by rw [pk_us, h0]; rfl) i (by omega) hi, a3 i hi]
        · rw [if_neg h0]
          have hb := b5 (by
            rw [pk_us]
            intro z
            have := (nI_eq (a := st.1 + 1) (b := 1) (by omega) (by omega)).mp z
            omega)
          subst hb
          refine ⟨fun i hi => by rw [pk_un hi, p1 i hi], fun i h1 h2 h3 => by rw [a2 i h1 h3, p2 i h1 h2 h3], by rw [pk_us], fun _ i hi => ?_⟩
          rw [a2 14 (by decide) (by decide), p4 (by omega) i hi]
      have hle : (vis d c S bl sl x st).1 ≤ st.1 + 1 := vis_le (d := d) (c := c) (S := S) (bl := bl) (sl := sl) 1 x st
      exact ih (x + 1) f' _ qb _ (by omega) (by omega) hPn (by omega)
theorem fp12 {d : Nat} {w : V1} (w3 : w 3 = nI d) (a1 : Int32) (q : V2) : ∀ (n X fu : Nat), n < 2 ^ 31 → n < fu → f_X8_findPacks_12 a1 fu (nI X) (nI n) w q = f_X8_findPacks_31 a1 4200 (nI (X * d ^ n)) 0 w q := by
  intro n
  induction n with
  | zero =>
    intro X fu hn hf
    obtain ⟨f', rfl⟩ : ∃ f', fu = f' + 1 := ⟨fu - 1, by omega⟩
    rw [f_X8_findPacks_12_s, if_pos (show nI 0 ≤ 0 by decide), Nat.pow_zero, Nat.mul_one]
  | succ n ih =>
    intro X fu hn hf
    obtain ⟨f', rfl⟩ : ∃ f', fu = f' + 1 := ⟨fu - 1, by omega⟩
    rw [f_X8_findPacks_12_s, if_neg (nI_nle (by omega) (by omega)), w3, pk_mul, m1i, nI_pred, ih (X * d) f' (by omega) (by omega), Nat.pow_succ, Nat.mul_assoc, Nat.mul_comm d]
theorem DR_pow : ∀ d : Fin 5, ∀ c : Fin 7, ∀ S : Fin 64, S.1 < 2 ^ c.1 → DR d.1 c.1 S.1 (c.1 - 0) = d.1 ^ pcn S.1 := by decide +kernel
theorem M_find {d c S : Nat} {bl sl : Nat → Nat} {bk sp : Nat → Int32} {w : V1} {q : V2} (hd : 0 < d) (hd4 : d ≤ 4) (hc : c ≤ 6) (hS : S < 2 ^ c) (hbl : ∀ j, bl j ≤ 9 ∧ bk j = nI (bl j)) (hsl : ∀ j, sl j ≤ 9 ∧ sp j = nI (sl j)) (w3 : w 3 = nI d) (w4 : w 4 = nI c) (q5 : q 5 = bk) (q3 : q 3 = sp) : ∃ w1 q1, f_X8_findPacks w q (nI S) = some (w1, q1) ∧ PM w w1 q q1 c (iter (vis d c S bl sl) 0 (DA d c S 0) (0, fun _ => -9)) := by
  have hS64 := p64 hc hS
  have hD : DA d c S 0 ≤ 4 ^ 6 := Nat.le_trans (DR_le c S hd4 (c - 0)) (Nat.pow_le_pow_right (by decide) (by omega))
  have hp := pcn_le hS64
  unfold f_X8_findPacks
  rw [size_nat hS64, Option.bind_some]
  have h := fp12 (w := upd w 12 0) (d := d) (by rw [pk_un (by decide), w3]) (nI S) q (pcn S) 1 80 (by omega) (by omega)
  have e : 1 * d ^ pcn S = DA d c S 0 := by
    rw [Nat.one_mul]
    exact (DR_pow ⟨d, by omega⟩ ⟨c, by omega⟩ ⟨S, hS64⟩ hS).symm
  rw [e] at h
  have g := fp31 (T := DA d c S 0) hd hd4 hc hS hbl hsl w3 w4 q5 q3 (by omega) (DA d c S 0) 0 4200 (upd w 12 0) q (0, fun _ => -9) (by omega) (by omega) ⟨fun i hi => pk_un hi, fun _ _ _ _ => rfl, pk_us, fun h => absurd h (by show ¬ 0 < 0; omega)⟩ (by show 0 + DA d c S 0 < _; omega)
  rw [nI_0] at g
  rw [show f_X8_findPacks_12 (nI S) 80 1 (nI (pcn S)) (upd w 12 0) q = _ from h]
  exact g
theorem num_of {f : Nat → Int32} (h : ∀ j, ∃ z, z ≤ 9 ∧ f j = nI z) (j : Nat) : (f j).toNatClampNeg ≤ 9 ∧ f j = nI (f j).toNatClampNeg := by
  obtain ⟨z, hz, e⟩ := h j
  rw [e, nI_clamp (by omega)]
  exact ⟨hz, rfl⟩
theorem op14 : Op14 Rel := by
  intro v r w q z0 z1 hR
  obtain ⟨ht, hf, hS, c, d, k, m, t, kd, bk, gy, lo, sp, cn, vl, hG, hC, hM⟩ := id hR
  unfold f_X7_packs f_X8_packs
  rw [within8]
  rcases stands_cases hC.1 hM.1 hG.1 r with ⟨-, h1, h2⟩ | ⟨h0, h1, h2⟩
  · exact ⟨-3, v, r, w, q, by rw [h1]; rfl, by rw [if_pos h2], hR⟩
  · rw [if_pos h1, if_neg h2]
    rcases set_cases hC.1 hM.1 hG.1 r q z0 with ⟨h3, h4⟩ | ⟨S, hSc, rfl, h3, h4⟩
    · exact ⟨-2, v, r, w, q, by rw [h3]; rfl, by rw [h4]; rfl, hR⟩
    · rw [if_pos h3, if_pos h4]
      cases hb : f_X7_within z1 (-1) 5 with
      | false => exact ⟨-2, v, r, w, q, rfl, rfl, hR⟩
      | true =>
        rw [if_pos rfl, if_pos rfl]
        obtain ⟨c2, c3, c4, c5, c6, r0, r1, r2, r3, r4, r5, r6⟩ := hC
        obtain ⟨w4, w3, w2, w5, w13, q4, q5, q6, q7, q3, q16, q17⟩ := hM
        have hd := hG.2.2.1 h0
        have hbl := num_of hG.2.2.2.2.2.2.2.1
        have hsl := num_of hG.2.2.2.2.2.2.2.2.2.2.1
        obtain ⟨v1, rr, a1, a2, a3, a4⟩ := C_pack hd hG.2.1 hG.1 hSc hbl hsl c2 c3 r1 r4
        obtain ⟨w1, qq, b1, b2, b3, b4, b5⟩ := M_find hd hG.2.1 hG.1 hSc hbl hsl w3 w4 q5 q3
        have hno := vis_no (d := d) hSc (bl := fun j => (bk j).toNatClampNeg) (sl := fun j => (sp j).toNatClampNeg) (DA d c S 0) 0 (0, fun _ => -9) (fun i _ => rfl)
        have hle := vis_le (d := d) (c := c) (S := S) (bl := fun j => (bk j).toNatClampNeg) (sl := fun j => (sp j).toNatClampNeg) (DA d c S 0) 0 (0, fun _ => -9)
        have hD : DA d c S 0 ≤ 4 ^ 6 := Nat.le_trans (DR_le c S hG.2.1 (c - 0)) (Nat.pow_le_pow_right (by decide) (by have := hG.1; omega))
        generalize iter (vis d c S (fun j => (bk j).toNatClampNeg) (fun j => (sp j).toNatClampNeg)) 0 (DA d c S 0) (0, fun _ => -9) = st at a3 a4 b4 b5 hno hle
        have hle' : st.1 < 2 ^ 31 := by
          have : st.1 ≤ 0 + DA d c S 0 := hle
          omega
        have hR1 : Rel v1 rr w1 qq := Rel_of c d k m t kd bk gy lo sp cn vl (by rw [a2.1 0 (by decide), b2 1 (by decide), ht]) (by rw [a2.1 1 (by decide), b2 0 (by decide), hf]) (hS.c (fun i hi => a2.2 i (by omega) (by omega) (by omega)) (fun i hi => b3 i (by omega) (by omega) (by omega))) hG (by rw [a2.1 2 (by decide), c2]) (by rw [a2.1 3 (by decide), c3]) (by rw [a2.1 4 (by decide), c4]) (by rw [a2.1 5 (by decide), c5]) (by rw [a2.1 6 (by decide), c6]) (by rw [a2.2 0 (by decide) (by decide) (by decide), r0]) (by rw [a2.2 1 (by decide) (by decide) (by decide), r1]) (by rw [a2.2 2 (by decide) (by decide) (by decide), r2]) (by rw [a2.2 3 (by decide) (by decide) (by decide), r3]) (by rw [a2.2 4 (by decide) (by decide) (by decide), r4]) (by rw [a2.2 5 (by decide) (by decide) (by decide), r5]) (by rw [a2.2 6 (by decide) (by decide) (by decide), r6]) (by rw [b2 4 (by decide), w4]) (by rw [b2 3 (by decide), w3]) (by rw [b2 2 (by decide), w2]) (by rw [b2 5 (by decide), w5]) (by rw [b2 13 (by decide), w13]) (by rw [b3 4 (by decide) (by decide) (by decide), q4]) (by rw [b3 5 (by decide) (by decide) (by decide), q5]) (by rw [b3 6 (by decide) (by decide) (by decide), q6]) (by rw [b3 7 (by decide) (by decide) (by decide), q7]) (by rw [b3 3 (by decide) (by decide) (by decide), q3]) (by rw [b3 16 (by decide) (by decide) (by decide), q16]) (by rw [b3 17 (by decide) (by decide) (by decide), q17])
        rw [a1, b1, Option.bind_some, Option.bind_some]
        dsimp only
        rw [a3]
        obtain ⟨g1, g2⟩ := within_t hb
        by_cases hz : z1 < 0
        · have e : z1 = -1 := by
            apply Int32.toInt_inj.mp
            rw [Int32.lt_iff_toInt_lt] at g1 hz
            have e1 : (-1 : Int32).toInt = -1 := rfl
            have e0 : (0 : Int32).toInt = 0 := rfl
            omega
          subst e
          exact ⟨nI st.1, v1, rr, w1, qq, by rw [if_neg (show ¬ (0 : Int32) ≤ -1 by decide)], by rw [if_pos rfl, b4], hR1⟩
        · obtain ⟨i, hi, rfl⟩ := nI_of2 (n := 5) (M := 5) rfl hz (i32_le_of_nlt g2)
          have hi6 : i < 6 := by omega
          have hii := inR_nI (k := i) (N := 6) hi6 (by decide)
          refine ⟨st.2 i, v1, rr, w1, qq, ?_, ?_, hR1⟩
          · rw [if_pos (nI_pos' (by omega)), if_pos hii, cl6 hi6, a4 i hi6]
          · rw [if_neg (nIm1 (by omega))]
            by_cases hs0 : st.1 = 0
            · rw [if_pos (show w1 12 ≤ 0 by rw [b4, hs0]; decide), hno i (Or.inl hs0)]
            · rw [if_neg (show ¬ w1 12 ≤ 0 by rw [b4]; exact nI_nle (by omega) hle')]
              rcases art_cases (v := v) c2 (w := w1) (by rw [b2 4 (by decide), w4]) hG.1 r qq (nI i) with ⟨-, u2⟩ | ⟨j, hj, e, -, u2⟩
              · rw [u2, if_neg Bool.false_ne_true]
                rw [hno i (Or.inr ?_)]
                rcases Nat.lt_or_ge i c with h | h
                · exfalso
                  unfold f_X8_isArticle at u2
                  have h1 : ¬ nI i < 0 := nI_pos (by omega)
                  have h2 : ¬ nI c ≤ nI i := nI_ge h (by have := hG.1; omega)
                  rw [b2 4 (by decide), w4] at u2
                  simp [h1, h2] at u2
                · exact h
              · have hij := (nI_eq (by omega) (by have := hG.1; omega)).mp e
                subst hij
                rw [u2, if_pos rfl, if_pos hii, cl6 hi6, b5 (by omega) i hj]
