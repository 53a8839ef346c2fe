/-! sheets: put, a new row, copies -/
theorem Rel_put {v : V1} {r : V2} {w : V1} {q : V2} (h : Rel v r w q) {j la N a : Nat} (hj : j < 4) (hla : la < 3) (hN : N ≤ 60) (h1 : r 10 j = nI la) (h2 : q 0 j = nI la) (h3 : r 11 j = nI N) (h4 : q 1 j = nI N) (h5 : ∀ x, x < N → r (12 + j) x = q 2 (60 * j + x)) (ha : a < N) (X : Int32) : Rel v (va_up r (12 + j) (upd (r (12 + j)) a X)) w (va_up q 2 (upd (q 2) (60 * j + a) X)) := by
  refine Rel_sh h (sh_of h.2.2.1 hj (fun i _ _ e _ => va_up_ne _ _ e) (fun i _ => ?_) (fun i _ => ?_) (fun i _ => ?_) (fun i _ => ?_) (fun i hi => ?_) (Or.inr ⟨la, N, hla, hN, ?_, ?_, ?_, ?_, fun x hx => ?_⟩)) (fun i hi => va_up_ne _ _ (by omega)) (fun i hi => va_up_ne _ _ (by omega))
  · rw [va_up_ne _ _ (by omega)]
  · rw [va_up_ne _ _ (by omega)]
  · rw [va_up_ne _ _ (by decide)]
  · rw [va_up_ne _ _ (by decide)]
  · rw [va_up_self, pk_un (by omega)]
  · rw [va_up_ne _ _ (by omega)]; exact h1
  · rw [va_up_ne _ _ (by decide)]; exact h2
  · rw [va_up_ne _ _ (by omega)]; exact h3
  · rw [va_up_ne _ _ (by decide)]; exact h4
  · rw [va_up_self, va_up_self]
    by_cases e : x = a
    · subst e; rw [pk_us, pk_us]
    · rw [pk_un e, pk_un (by omega)]; exact h5 x hx
theorem op25 : Op25 Rel := by
  intro v r w q z0 z1 z2 hR0
  have hR := Rel_fault hR0 0
  have hS := hR.2.2.1
  unfold f_X7_put f_X8_put
  rw [isSheet8, within8]
  cases hb : f_X7_isSheet z0 with
  | false => exact ⟨_, _, r, _, q, rfl, rfl, hR⟩
  | true =>
    obtain ⟨j, hj, rfl⟩ := isSheet_nI hb
    unfold f_X7_failed f_X8_fails f_X4_hasNothing f_X4_write f_X4_cut
    simp only [if_true, in4 hj, cl4 hj, Option.bind_some]
    rcases hS j hj with ⟨h1, h2⟩ | ⟨la', N, h0, hN, h1, h2, h3, h4, h5⟩
    · rw [h1, h2, if_pos rfl, if_pos rfl, if_pos rfl]
      exact ⟨_, _, _, _, _, rfl, rfl, Rel_fault hR 1⟩
    · rw [h1, h2, if_neg (nIm1 (by omega)), if_neg Bool.false_ne_true, if_neg (nIm9 (by omega)), h4, h3, ho_size hN _ h3]
      cases hw : f_X7_within z1 0 (nI N - 1) with
      | false => exact ⟨_, _, _, _, _, rfl, rfl, Rel_fault hR 3⟩
      | true =>
        obtain ⟨a, ha, rfl⟩ := (wi_size hN z1).mp hw
        obtain ⟨e1, e2⟩ := ix60 hj (a := a) (by omega)
        simp only [if_true, e1, e2, if_neg (nI_pos (n := a) (by omega)), if_neg (nI_ge ha (by omega)), inR_nI (k := a) (N := 60) (by omega) (by decide), nI_clamp (n := a) (by omega), Option.bind_some]
        by_cases c0 : nI la' = 0
        · rw [if_pos c0, if_pos c0]
          exact ⟨_, _, _, _, _, rfl, rfl, Rel_put hR hj h0 hN h1 h2 h3 h4 h5 ha _⟩
        · rw [if_neg c0, if_neg c0]
          by_cases c1 : nI la' = 1
          · rw [if_pos c1, if_pos c1]
            exact ⟨_, _, _, _, _, rfl, rfl, Rel_put hR hj h0 hN h1 h2 h3 h4 h5 ha _⟩
          · rw [if_neg c1, if_neg c1]
            exact ⟨_, _, _, _, _, rfl, rfl, Rel_put hR hj h0 hN h1 h2 h3 h4 h5 ha _⟩
theorem renew_loop (j : Nat) (a1 a2 : Int32) {n : Nat} (hn : n ≤ 60) : ∀ (k x fu : Nat) (v : V1) (r : V2), x + k = n → k < fu → r 11 j = nI n → ∃ r1, f_X4_renew_21 j a1 a2 fu (nI x) v r = some (v, r1) ∧ (∀ i, i ≠ 12 + j → r1 i = r i) ∧ (∀ i, x ≤ i → i < n → r1 (12 + j) i = 0) ∧ (∀ i, i < x → r1 (12 + j) i = r (12 + j) i) := by
  intro k
  induction k with
  | zero =>
    intro x fu v r hx hf h
    obtain ⟨f', rfl⟩ : ∃ f', fu = f' + 1 := ⟨fu - 1, by omega⟩
    refine ⟨r, ?_, fun _ _ => rfl, fun i h1 h2 => by omega, fun _ _ => rfl⟩
    rw [f_X4_renew_21_s, h, if_pos (nI_le (by omega) (by omega))]
  | succ k ih =>
    intro x fu v r hx hf h
    obtain ⟨f', rfl⟩ : ∃ f', fu = f' + 1 := ⟨fu - 1, by omega⟩
    obtain ⟨r1, e1, e2, e3, e4⟩ := ih (x + 1) f' v (va_up r (12 + j) (upd (r (12 + j)) x 0)) (by omega) (by omega) (by rw [va_up_ne _ _ (by omega)]; exact h)
    refine ⟨r1, ?_, fun i hi => by rw [e2 i hi, va_up_ne _ _ hi], fun i h1 h2 => ?_, fun i hi => ?_⟩
    · rw [f_X4_renew_21_s, h, if_neg (nI_ge (by omega) (by omega)), if_pos (inR_nI (by omega) (by decide)), nI_clamp (by omega), nI_1]
      exact e1
    · rcases Nat.lt_or_ge x i with hh | hh
      · exact e3 i (by omega) h2
      · have ei : i = x := by omega
        subst ei
        rw [e4 i (by omega), va_up_self, pk_us]
    · rw [e4 i (by omega), va_up_self, pk_un (by omega)]
theorem zero_loop {j : Nat} (hj : j < 4) (a2 a3 : Int32) : ∀ (k x fu : Nat) (w : V1) (q : V2), x + k = 60 → k < fu → ∃ q1, f_X8_sheet_57 (nI j) a2 a3 fu (nI x) w q = some (1, (w, q1)) ∧ (∀ i, i ≠ 2 → q1 i = q i) ∧ (∀ i, 60 * j + x ≤ i → i < 60 * j + 60 → q1 2 i = 0) ∧ (∀ i, (i < 60 * j + x ∨ 60 * j + 60 ≤ i) → q1 2 i = q 2 i) := by
  intro k
  induction k with
  | zero =>
    intro x fu w q hx hf
    obtain ⟨f', rfl⟩ : ∃ f', fu = f' + 1 := ⟨fu - 1, by omega⟩
    have e : x = 60 := by omega
    subst e
    refine ⟨q, ?_, fun _ _ => rfl, fun i h1 h2 => by omega, fun _ _ => rfl⟩
    rw [f_X8_sheet_57_s, if_pos (show (60 : Int32) ≤ nI 60 by decide)]
  | succ k ih =>
    intro x fu w q hx hf
    obtain ⟨f', rfl⟩ : ∃ f', fu = f' + 1 := ⟨fu - 1, by omega⟩
    obtain ⟨q1, e1, e2, e3, e4⟩ := ih (x + 1) f' w (va_up q 2 (upd (q 2) (60 * j + x) 0)) (by omega) (by omega)
    obtain ⟨g1, g2⟩ := ix60 hj (a := x) (by omega)
    refine ⟨q1, ?_, fun i hi => by rw [e2 i hi, va_up_ne _ _ hi], fun i h1 h2 => ?_, fun i hi => ?_⟩
    · have h60 : ¬ (60 : Int32) ≤ nI x := nI_ge (a := x) (b := 60) (by omega) (by omega)
      rw [f_X8_sheet_57_s, if_neg h60, if_pos g1, g2, nI_1]
      exact e1
    · rcases Nat.lt_or_ge (60 * j + x) i with hh | hh
      · exact e3 i (by omega) h2
      · have ei : i = 60 * j + x := by omega
        subst ei
        rw [e4 _ (by omega), va_up_self, pk_us]
    · rw [e4 i (by omega), va_up_self, pk_un (by omega)]
theorem size60 : ∀ b : Fin 61, (if 0 < (if 60 < nI b then 60 else nI b) then (if 60 < nI b then 60 else nI b) else 0) = nI b := by decide +kernel
theorem op23 : Op23 Rel := by
  intro v r w q z0 z1 z2 hR0
  have hR := Rel_fault hR0 0
  have hS := hR.2.2.1
  unfold f_X7_sheet f_X8_sheet
  rw [isSheet8, isSort8]
  cases hb : f_X7_isSheet z0 with
  | false => exact ⟨_, _, r, _, q, rfl, rfl, hR⟩
  | true =>
    obtain ⟨j, hj, rfl⟩ := isSheet_nI hb
    cases hb2 : f_X7_isLane z1 with
    | false => exact ⟨_, _, r, _, q, rfl, rfl, hR⟩
    | true =>
      obtain ⟨la, hla, rfl⟩ := isLane_nI hb2
      unfold f_X7_failed f_X8_fails f_X4_renew
      simp only [if_true, in4 hj, cl4 hj, Option.bind_some]
      by_cases c1 : z2 ≤ 60
      · rw [if_pos c1, if_pos c1]
        by_cases c2 : 0 ≤ z2
        · rw [if_pos c2, if_pos c2]
          obtain ⟨b, hb, rfl⟩ := nI_of2 (n := 60) (M := 60) rfl (fun z => (i32_lt_iff.mp z) c2) c1
          rw [size60 ⟨b, by omega⟩]
          obtain ⟨r1, e1, e2, e3, e4⟩ := renew_loop j (nI la) (nI b) hb b 0 80 (upd v 1 0) (va_up (va_up r 10 (upd (r 10) j (nI la))) 11 (upd ((va_up r 10 (upd (r 10) j (nI la))) 11) j (nI b))) (by omega) (by omega) (by rw [va_up_self, pk_us])
          obtain ⟨q1, g1, g2, g3, g4⟩ := zero_loop hj (nI la) (nI b) 60 0 80 (upd w 0 0) (va_up (va_up q 0 (upd (q 0) j (nI la))) 1 (upd ((va_up q 0 (upd (q 0) j (nI la))) 1) j (nI b))) (by omega) (by omega)
          rw [nI_0] at e1 g1
          rw [e1, g1]
          refine ⟨1, _, r1, _, q1, rfl, rfl, Rel_sh hR (sh_of hS hj (fun i a1 a2 a3 a4 => ?_) (fun i e => ?_) (fun i e => ?_) (fun i e => ?_) (fun i e => ?_) (fun i hi => ?_) (Or.inr ⟨la, b, hla, hb, ?_, ?_, ?_, ?_, fun x hx => ?_⟩)) (fun i hi => ?_) (fun i hi => ?_)⟩
          · rw [e2 i a3, va_up_ne _ _ a2, va_up_ne _ _ a1]
          · rw [e2 10 (by omega), va_up_ne _ _ (by decide), va_up_self, pk_un e]
          · rw [e2 11 (by omega), va_up_self, pk_un e, va_up_ne _ _ (by decide)]
          · rw [g2 0 (by decide), va_up_ne _ _ (by decide), va_up_self, pk_un e]
          · rw [g2 1 (by decide), va_up_self, pk_un e, va_up_ne _ _ (by decide)]
          · rw [g4 i (by omega), va_up_ne _ _ (by decide), va_up_ne _ _ (by decide)]
          · rw [e2 10 (by omega), va_up_ne _ _ (by decide), va_up_self, pk_us]
          · rw [g2 0 (by decide), va_up_ne _ _ (by decide), va_up_self, pk_us]
          · rw [e2 11 (by omega), va_up_self, pk_us]
          · rw [g2 1 (by decide), va_up_self, pk_us]
          · rw [e3 x (by omega) hx, g3 _ (by omega) (by omega)]
          · rw [e2 i (by omega), va_up_ne _ _ (by omega), va_up_ne _ _ (by omega)]
          · rw [g2 i (by omega), va_up_ne _ _ (by omega), va_up_ne _ _ (by omega)]
        · rw [if_neg c2, if_neg c2]
          exact ⟨_, _, _, _, _, rfl, rfl, Rel_fault hR 4⟩
      · rw [if_neg c1, if_neg c1]
        exact ⟨_, _, _, _, _, rfl, rfl, hR⟩
