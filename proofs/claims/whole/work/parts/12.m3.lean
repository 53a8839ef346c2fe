/-! a city is taken -/
theorem T18 {R : Nat} (hR : R ≤ 4) {w : V1} (w3 : w 3 = nI R) : ∀ (m x fu : Nat) (q : V2), x + m = R → m < fu → ∃ q1, f_X8_takeCity_18 fu (nI x) w q = f_X8_takeCity_54 80 0 (upd w 4 (w 9)) q1 ∧ (∀ i, i ≠ 3 → q1 i = q i) ∧ (∀ i, (i < x ∨ R ≤ i) → q1 3 i = q 3 i) ∧ (∀ i, x ≤ i → i < R → q1 3 i = q 8 i) := by
  intro m
  induction m with
  | zero =>
    intro x fu q hx hf
    obtain ⟨f', rfl⟩ : ∃ f', fu = f' + 1 := ⟨fu - 1, by omega⟩
    refine ⟨q, ?_, fun _ _ => rfl, fun _ _ => rfl, fun i h1 h2 => by omega⟩
    rw [f_X8_takeCity_18_s, w3, if_pos (nI_le (by omega) (by omega))]
  | succ m ih =>
    intro x fu q hx hf
    obtain ⟨f', rfl⟩ : ∃ f', fu = f' + 1 := ⟨fu - 1, by omega⟩
    have hi := inR_nI (k := x) (N := 4) (by omega) (by decide)
    obtain ⟨q1, e1, e2, e3, e4⟩ := ih (x + 1) f' (va_up q 3 (upd (q 3) x (q 8 x))) (by omega) (by omega)
    refine ⟨q1, ?_, fun i h => by rw [e2 i h, va_up_ne _ _ h], fun i h => by rw [e3 i (by omega), va_up_self, pk_un (by omega)], fun i h1 h2 => ?_⟩
    · rw [f_X8_takeCity_18_s, w3, if_neg (nI_ge (by omega) (by omega)), if_pos hi, if_pos hi, cl4 (by omega), nI_1, e1]
    · rcases Nat.eq_or_lt_of_le h1 with h | h
      · subst h
        rw [e3 x (by omega), va_up_self, pk_us]
      · rw [e4 i h h2, va_up_ne _ _ (by decide)]
/-- rows k.. of the new state agree with the source below B and with the old state elsewhere -/
def CPY (x B : Nat) (old src new : Nat → Int32) : Prop := (∀ i, (i < x ∨ B ≤ i) → new i = old i) ∧ (∀ i, x ≤ i → i < B → new i = src i)
theorem CPY.s {x B : Nat} {old src new mid : Nat → Int32} {y : Int32} (hx : x < B) (hm : mid = upd old x y) (hy : y = src x) (h : CPY (x + 1) B mid src new) : CPY x B old src new := by
  refine ⟨fun i hi => ?_, fun i h1 h2 => ?_⟩
  · rw [h.1 i (by omega), hm, pk_un (by omega)]
  · rcases Nat.eq_or_lt_of_le h1 with e | e
    · subst e
      rw [h.1 x (by omega), hm, pk_us, hy]
    · exact h.2 i e h2
theorem T54 {B : Nat} (hB : B ≤ 6) {w : V1} (w4 : w 4 = nI B) : ∀ (m x fu : Nat) (q : V2), x + m = B → m < fu → ∃ q1, f_X8_takeCity_54 fu (nI x) w q = some (upd (upd w 5 0) 13 0, q1) ∧ (∀ i, (i < 4 ∨ 7 < i) → q1 i = q i) ∧ CPY x B (q 4) (q 9) (q1 4) ∧ CPY x B (q 5) (q 10) (q1 5) ∧ CPY x B (q 6) (q 11) (q1 6) ∧ CPY x B (q 7) (q 12) (q1 7) := by
  intro m
  induction m with
  | zero =>
    intro x fu q hx hf
    obtain ⟨f', rfl⟩ : ∃ f', fu = f' + 1 := ⟨fu - 1, by omega⟩
    refine ⟨q, ?_, fun _ _ => rfl, ⟨fun _ _ => rfl, fun i h1 h2 => by omega⟩, ⟨fun _ _ => rfl, fun i h1 h2 => by omega⟩, ⟨fun _ _ => rfl, fun i h1 h2 => by omega⟩, ⟨fun _ _ => rfl, fun i h1 h2 => by omega⟩⟩
    rw [f_X8_takeCity_54_s, w4, if_pos (nI_le (by omega) (by omega))]
  | succ m ih =>
    intro x fu q hx hf
    obtain ⟨f', rfl⟩ : ∃ f', fu = f' + 1 := ⟨fu - 1, by omega⟩
    have hi := inR_nI (k := x) (N := 6) (by omega) (by decide)
    rw [f_X8_takeCity_54_s, w4, if_neg (nI_ge (by omega) (by omega)), if_pos hi, if_pos hi, if_pos hi, if_pos hi, if_pos hi, if_pos hi, if_pos hi, if_pos hi, cl6 (by omega), nI_1]
    generalize hQ : (va_up (va_up (va_up (va_up q 4 (upd (q 4) x (q 9 x))) 5 (upd ((va_up q 4 (upd (q 4) x (q 9 x))) 5) x ((va_up q 4 (upd (q 4) x (q 9 x))) 10 x))) 6 (upd ((va_up (va_up q 4 (upd (q 4) x (q 9 x))) 5 (upd ((va_up q 4 (upd (q 4) x (q 9 x))) 5) x ((va_up q 4 (upd (q 4) x (q 9 x))) 10 x))) 6) x ((va_up (va_up q 4 (upd (q 4) x (q 9 x))) 5 (upd ((va_up q 4 (upd (q 4) x (q 9 x))) 5) x ((va_up q 4 (upd (q 4) x (q 9 x))) 10 x))) 11 x))) 7 (upd ((va_up (va_up (va_up q 4 (upd (q 4) x (q 9 x))) 5 (upd ((va_up q 4 (upd (q 4) x (q 9 x))) 5) x ((va_up q 4 (upd (q 4) x (q 9 x))) 10 x))) 6 (upd ((va_up (va_up q 4 (upd (q 4) x (q 9 x))) 5 (upd ((va_up q 4 (upd (q 4) x (q 9 x))) 5) x ((va_up q 4 (upd (q 4) x (q 9 x))) 10 x))) 6) x ((va_up (va_up q 4 (upd (q 4) x (q 9 x))) 5 (upd ((va_up q 4 (upd (q 4) x (q 9 x))) 5) x ((va_up q 4 (upd (q 4) x (q 9 x))) 10 x))) 11 x))) 7) x ((va_up (va_up (va_up q 4 (upd (q 4) x (q 9 x))) 5 (upd ((va_up q 4 (upd (q 4) x (q 9 x))) 5) x ((va_up q 4 (upd (q 4) x (q 9 x))) 10 x))) 6 (upd ((va_up (va_up q 4 (upd (q 4) x (q 9 x))) 5 (upd ((va_up q 4 (upd (q 4) x (q 9 x))) 5) x ((va_up q 4 (upd (q 4) x (q 9 x))) 10 x))) 6) x ((va_up (va_up q 4 (upd (q 4) x (q 9 x))) 5 (upd ((va_up q 4 (upd (q 4) x (q 9 x))) 5) x ((va_up q 4 (upd (q 4) x (q 9 x))) 10 x))) 11 x))) 12 x))) = Q
    have h4 : Q 4 = upd (q 4) x (q 9 x) := by rw [← hQ, va_up_ne _ _ (by decide), va_up_ne _ _ (by decide), va_up_ne _ _ (by decide), va_up_self]
    have h5 : Q 5 = upd (q 5) x (q 10 x) := by rw [← hQ, va_up_ne (j := 5) (k := 7) _ _ (by decide), va_up_ne (j := 5) (k := 6) _ _ (by decide), va_up_self, va_up_ne _ _ (by decide), va_up_ne _ _ (by decide)]
    have h6 : Q 6 = upd (q 6) x (q 11 x) := by rw [← hQ, va_up_ne (j := 6) (k := 7) _ _ (by decide), va_up_self, va_up_ne (j := 6) (k := 5) _ _ (by decide), va_up_ne (j := 6) (k := 4) _ _ (by decide), va_up_ne (j := 11) (k := 5) _ _ (by decide), va_up_ne (j := 11) (k := 4) _ _ (by decide)]
    have h7 : Q 7 = upd (q 7) x (q 12 x) := by rw [← hQ, va_up_self, va_up_ne (j := 7) (k := 6) _ _ (by decide), va_up_ne (j := 7) (k := 5) _ _ (by decide), va_up_ne (j := 7) (k := 4) _ _ (by decide), va_up_ne (j := 12) (k := 6) _ _ (by decide), va_up_ne (j := 12) (k := 5) _ _ (by decide), va_up_ne (j := 12) (k := 4) _ _ (by decide)]
    have ho : ∀ i, (i < 4 ∨ 7 < i) → Q i = q i := fun i hi => by rw [← hQ, va_up_ne _ _ (by omega), va_up_ne _ _ (by omega), va_up_ne _ _ (by omega), va_up_ne _ _ (by omega)]
    obtain ⟨q1, e1, e2, e3, e4, e5, e6⟩ := ih (x + 1) f' Q (by omega) (by omega)
    rw [ho 9 (by omega)] at e3
    rw [ho 10 (by omega)] at e4
    rw [ho 11 (by omega)] at e5
    rw [ho 12 (by omega)] at e6
    exact ⟨q1, e1, fun i hi => by rw [e2 i hi, ho i hi], e3.s (by omega) h4 rfl, e4.s (by omega) h5 rfl, e5.s (by omega) h6 rfl, e6.s (by omega) h7 rfl⟩
theorem C_fill {v : V1} {r q r' : V2} {j a n s : Nat} {cd : Nat → Int32} (hT : TX j a n cd r q) (hr : ∀ i, 10 ≤ i → r' i = r i) (hs : s + 5 < n) (k0 : Nat) : ∃ r1, f_X5_fill v r' k0 j (nI (a + s)) = some (v, r1) ∧ (∀ i, 4 ≤ i → r1 i = r' i) ∧ r1 0 = upd (r' 0) k0 (f_X5_kindOf (cd (s + 1))) ∧ r1 1 = upd (r' 1) k0 (cd (s + 2) - 48) ∧ r1 2 = upd (r' 2) k0 (cd (s + 3) - 48) ∧ r1 3 = upd (r' 3) k0 (10 * (cd (s + 4) - 48) + (cd (s + 5) - 48)) := by
  have at' : ∀ (y : V2) (t : Nat) (c : Int32), (∀ i, 10 ≤ i → y i = r i) → s + t < n → nI (a + s) + c = nI (a + (s + t)) → f_X4_at v y j (nI (a + s) + c) = some (cd (s + t)) := by
    intro y t c hy ht hc
    rw [hc]
    exact (hT.c hy rfl).2.2.2.1 v (s + t) ht
  have hc : ∀ t : Nat, nI (a + s) + nI t = nI (a + (s + t)) := fun t => by rw [nI_add, Nat.add_assoc]
  unfold f_X5_fill f_X5_digit
  rw [at' _ 1 1 hr (by omega) (hc 1), Option.bind_some, at' _ 2 2 (fun i hi => by rw [va_up_ne _ _ (by omega), hr i hi]) (by omega) (hc 2), Option.bind_some, Option.bind_some, at' _ 3 3 (fun i hi => by rw [va_up_ne _ _ (by omega), va_up_ne _ _ (by omega), hr i hi]) (by omega) (hc 3), Option.bind_some, Option.bind_some, at' _ 4 4 (fun i hi => by rw [va_up_ne _ _ (by omega), va_up_ne _ _ (by omega), va_up_ne _ _ (by omega), hr i hi]) (by omega) (hc 4), Option.bind_some, Option.bind_some, at' _ 5 5 (fun i hi => by rw [va_up_ne _ _ (by omega), va_up_ne _ _ (by omega), va_up_ne _ _ (by omega), hr i hi]) (by omega) (hc 5), Option.bind_some, Option.bind_some]
  refine ⟨_, rfl, fun i hi => ?_, ?_, ?_, ?_, ?_⟩
  · rw [va_up_ne _ _ (by omega), va_up_ne _ _ (by omega), va_up_ne _ _ (by omega), va_up_ne _ _ (by omega)]
  · rw [va_up_ne _ _ (by decide), va_up_ne _ _ (by decide), va_up_ne _ _ (by decide), va_up_self]
  · rw [va_up_ne (j := 1) (k := 3) _ _ (by decide), va_up_ne (j := 1) (k := 2) _ _ (by decide), va_up_self, va_up_ne _ _ (by decide)]
  · rw [va_up_ne (j := 2) (k := 3) _ _ (by decide), va_up_self, va_up_ne (j := 2) (k := 1) _ _ (by decide), va_up_ne (j := 2) (k := 0) _ _ (by decide)]
  · rw [va_up_self, va_up_ne (j := 3) (k := 2) _ _ (by decide), va_up_ne (j := 3) (k := 1) _ _ (by decide), va_up_ne (j := 3) (k := 0) _ _ (by decide)]
theorem B98 {r q : V2} {j a n R B : Nat} {cd : Nat → Int32} (hT : TX j a n cd r q) (hB : B ≤ 6) (hn : n = 4 + R + 6 * B) (a3 : Int32) : ∀ (m x fu : Nat) (v : V1) (r' : V2), x + m = B → m < fu → v 2 = nI B → (∀ i, 10 ≤ i → r' i = r i) → ∃ r1, f_X5_build_98 j (nI a) a3 fu (nI (a + (4 + R))) (nI x) v r' = some (upd v 5 0, r1) ∧ (∀ i, 4 ≤ i → r1 i = r' i) ∧ CPY x B (r' 0) (fun i => f_X5_kindOf (cd (4 + R + 6 * i + 1))) (r1 0) ∧ CPY x B (r' 1) (fun i => cd (4 + R + 6 * i + 2) - 48) (r1 1) ∧ CPY x B (r' 2) (fun i => cd (4 + R + 6 * i + 3) - 48) (r1 2) ∧ CPY x B (r' 3) (fun i => 10 * (cd (4 + R + 6 * i + 4) - 48) + (cd (4 + R + 6 * i + 5) - 48)) (r1 3) := by
  intro m
  induction m with
  | zero =>
    intro x fu v r' hx hf h2 hr
    obtain ⟨f', rfl⟩ : ∃ f', fu = f' + 1 := ⟨fu - 1, by omega⟩
    refine ⟨r', ?_, fun _ _ => rfl, ⟨fun _ _ => rfl, fun i h1 h2 => by omega⟩, ⟨fun _ _ => rfl, fun i h1 h2 => by omega⟩, ⟨fun _ _ => rfl, fun i h1 h2 => by omega⟩, ⟨fun _ _ => rfl, fun i h1 h2 => by omega⟩⟩
    rw [f_X5_build_98_s, h2, if_pos (nI_le (by omega) (by omega))]
  | succ m ih =>
    intro x fu v r' hx hf h2 hr
    obtain ⟨f', rfl⟩ : ∃ f', fu = f' + 1 := ⟨fu - 1, by omega⟩
    have hi := inR_nI (k := x) (N := 6) (by omega) (by decide)
    have ei : nI (a + (4 + R)) + nI x * 6 = nI (a + (4 + R + 6 * x)) := by
      show nI (a + (4 + R)) + nI x * nI 6 = _
      rw [pk_mul, nI_add, Nat.mul_comm x 6, Nat.add_assoc]
    obtain ⟨r2, g1, g2, g3, g4, g5, g6⟩ := C_fill (v := v) hT hr (s := 4 + R + 6 * x) (by omega) x
    rw [f_X5_build_98_s, h2, if_neg (nI_ge (by omega) (by omega)), if_pos hi, cl6 (by omega), ei, g1, Option.bind_some, nI_1]
    dsimp only
    obtain ⟨r1, e1, e2, e3, e4, e5, e6⟩ := ih (x + 1) f' v r2 (by omega) (by omega) h2 (fun i hi => by rw [g2 i (by omega), hr i hi])
    exact ⟨r1, e1, fun i hi => by rw [e2 i hi, g2 i hi], e3.s (by omega) g3 rfl, e4.s (by omega) g4 rfl, e5.s (by omega) g5 rfl, e6.s (by omega) g6 rfl⟩
theorem C_dig {v : V1} {r q r' : V2} {j a n p : Nat} {cd : Nat → Int32} (hT : TX j a n cd r q) (hr : ∀ i, 10 ≤ i → r' i = r i) (hp : p < n) : f_X5_digit v r' j (nI (a + p)) = some (cd p - 48) := by
  unfold f_X5_digit
  rw [(hT.c hr rfl).2.2.2.1 v p hp, Option.bind_some]
theorem B39 {r q : V2} {j a n R : Nat} {cd : Nat → Int32} (hT : TX j a n cd r q) (hR : R ≤ 4) (hRn : 4 + R ≤ n) (a3 : Int32) (v : V1) : ∀ (m x fu : Nat) (r' : V2), x + m = R → m < fu → (∀ i, 10 ≤ i → r' i = r i) → ∃ r1, f_X5_build_39 j (nI a) a3 fu (nI R) (nI x) v r' = f_X5_build_98 j (nI a) a3 80 (nI (a + (4 + R))) 0 (upd v 2 (if 6 < (((a3 - 4) - nI R) / 6) then 6 else (((a3 - 4) - nI R) / 6))) r1 ∧ (∀ i, i ≠ 4 → r1 i = r' i) ∧ CPY x R (r' 4) (fun i => cd (4 + i) - 48) (r1 4) := by
  intro m
  have e4 : ∀ x : Nat, nI a + 4 + nI x = nI (a + (4 + x)) := fun x => by
    show nI a + nI 4 + nI x = _
    rw [nI_add, nI_add, Nat.add_assoc]
  induction m with
  | zero =>
    intro x fu r' hx hf hr
    obtain ⟨f', rfl⟩ : ∃ f', fu = f' + 1 := ⟨fu - 1, by omega⟩
    refine ⟨r', ?_, fun _ _ => rfl, ⟨fun _ _ => rfl, fun i h1 h2 => by omega⟩⟩
    rw [f_X5_build_39_s, if_pos (nI_le (by omega) (by omega)), e4]
  | succ m ih =>
    intro x fu r' hx hf hr
    obtain ⟨f', rfl⟩ : ∃ f', fu = f' + 1 := ⟨fu - 1, by omega⟩
    have hi := inR_nI (k := x) (N := 4) (by omega) (by decide)
    rw [f_X5_build_39_s, if_neg (nI_ge (by omega) (by omega)), e4 x, C_dig hT hr (by omega), Option.bind_some, if_pos hi, cl4 (by omega), nI_1]
    obtain ⟨r1, g1, g2, g3⟩ := ih (x + 1) f' (va_up r' 4 (upd (r' 4) x (cd (4 + x) - 48))) (by omega) (by omega) (fun i hi => by rw [va_up_ne _ _ (by omega), hr i hi])
    exact ⟨r1, g1, fun i hi => by rw [g2 i hi, va_up_ne _ _ hi], g3.s (by omega) (va_up_self _ _ _) rfl⟩
theorem nB : ∀ R : Fin 5, ∀ B : Fin 7, (if 6 < (((nI (4 + R.1 + 6 * B.1) - 4) - nI R.1) / 6) then 6 else (((nI (4 + R.1 + 6 * B.1) - 4) - nI R.1) / 6)) = nI B.1 := by decide +kernel
