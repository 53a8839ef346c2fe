/-! copies -/
theorem cpy_ix {j a x : Nat} (hj : j < 4) (h : a + x < 60) : inR (((60 * nI j) + nI a) + nI x) 240 = true ∧ (((60 * nI j) + nI a) + nI x).toNatClampNeg = 60 * j + a + x := by
  have e : ((60 : Int32) * nI j + nI a) + nI x = nI (60 * j + a + x) := by
    show (nI 60 * nI j + nI a) + nI x = _
    rw [pk_mul, nI_add, nI_add]
  rw [e]
  exact ⟨inR_nI (by omega) (by decide), nI_clamp (by omega)⟩
/-- forward: places below y are done -/
theorem fwd_loop {k o a b n : Nat} (hk : k < 4) (ho : o < 4) (ha : a + n ≤ 60) (hb : b + n ≤ 60) (hba : k = o → b ≤ a) : ∀ (m y fu : Nat) (w : V1) (q : V2), y + m = n → m < fu → ∃ q1, f_X8_copy_166 (nI k) (nI a) (nI o) (nI b) (nI n) fu 0 (nI y) w q = some (nI n, (w, q1)) ∧ (∀ i, i ≠ 2 → q1 i = q i) ∧ (∀ x, y ≤ x → x < n → q1 2 (60 * o + b + x) = q 2 (60 * k + a + x)) ∧ (∀ i, (i < 60 * o + b + y ∨ 60 * o + b + n ≤ i) → q1 2 i = q 2 i) := by
  intro m
  induction m with
  | zero =>
    intro y fu w q hy hf
    obtain ⟨f', rfl⟩ : ∃ f', fu = f' + 1 := ⟨fu - 1, by omega⟩
    refine ⟨q, ?_, fun _ _ => rfl, fun i h1 h2 => by omega, fun _ _ => rfl⟩
    rw [f_X8_copy_166_s, if_pos (nI_le (by omega) (by omega))]
  | succ m ih =>
    intro y fu w q hy hf
    obtain ⟨f', rfl⟩ : ∃ f', fu = f' + 1 := ⟨fu - 1, by omega⟩
    obtain ⟨q1, e1, e2, e3, e4⟩ := ih (y + 1) f' w (va_up q 2 (upd (q 2) (60 * o + b + y) (q 2 (60 * k + a + y)))) (by omega) (by omega)
    obtain ⟨g1, g2⟩ := cpy_ix hk (a := a) (x := y) (by omega)
    obtain ⟨g3, g4⟩ := cpy_ix ho (a := b) (x := y) (by omega)
    refine ⟨q1, ?_, fun i hi => by rw [e2 i hi, va_up_ne _ _ hi], fun x h1 h2 => ?_, fun i hi => ?_⟩
    · rw [f_X8_copy_166_s, if_neg (nI_ge (by omega) (by omega)), if_pos rfl, if_pos g1, if_pos g3, g2, g4, nI_1]
      exact e1
    · rcases Nat.lt_or_ge y x with hh | hh
      · rw [e3 x (by omega) h2, va_up_self, pk_un]
        intro e
        by_cases hko : k = o
        · have := hba hko; subst hko; omega
        · omega
      · have ei : x = y := by omega
        subst ei
        rw [e4 _ (by omega), va_up_self, pk_us]
    · rw [e4 i (by omega), va_up_self, pk_un (by omega)]
/-- backward: places from n - y on are done -/
theorem bwd_loop {k o a b n : Nat} (hk : k < 4) (ho : o < 4) (ha : a + n ≤ 60) (hb : b + n ≤ 60) (hba : k = o → a ≤ b) : ∀ (m y fu : Nat) (w : V1) (q : V2), y + m = n → m < fu → ∃ q1, f_X8_copy_166 (nI k) (nI a) (nI o) (nI b) (nI n) fu 1 (nI y) w q = some (nI n, (w, q1)) ∧ (∀ i, i ≠ 2 → q1 i = q i) ∧ (∀ x, x < n - y → q1 2 (60 * o + b + x) = q 2 (60 * k + a + x)) ∧ (∀ i, (i < 60 * o + b ∨ 60 * o + b + (n - y) ≤ i) → q1 2 i = q 2 i) := by
  intro m
  induction m with
  | zero =>
    intro y fu w q hy hf
    obtain ⟨f', rfl⟩ : ∃ f', fu = f' + 1 := ⟨fu - 1, by omega⟩
    refine ⟨q, ?_, fun _ _ => rfl, fun i h1 => by omega, fun _ _ => rfl⟩
    rw [f_X8_copy_166_s, if_pos (nI_le (by omega) (by omega))]
  | succ m ih =>
    intro y fu w q hy hf
    obtain ⟨f', rfl⟩ : ∃ f', fu = f' + 1 := ⟨fu - 1, by omega⟩
    obtain ⟨q1, e1, e2, e3, e4⟩ := ih (y + 1) f' w (va_up q 2 (upd (q 2) (60 * o + b + (n - 1 - y)) (q 2 (60 * k + a + (n - 1 - y))))) (by omega) (by omega)
    obtain ⟨g1, g2⟩ := cpy_ix hk (a := a) (x := n - 1 - y) (by omega)
    obtain ⟨g3, g4⟩ := cpy_ix ho (a := b) (x := n - 1 - y) (by omega)
    have en : (nI n - 1) - nI y = nI (n - 1 - y) := by
      rw [show nI n - 1 = nI (n - 1) from pk_sub (a := n) (b := 1) (by omega), pk_sub (by omega)]
    refine ⟨q1, ?_, fun i hi => by rw [e2 i hi, va_up_ne _ _ hi], fun x h1 => ?_, fun i hi => ?_⟩
    · rw [f_X8_copy_166_s, if_neg (nI_ge (by omega) (by omega)), if_neg (show ¬ (1 : Int32) = 0 by decide), en, if_pos g1, if_pos g3, g2, g4, nI_1]
      exact e1
    · rcases Nat.lt_or_ge x (n - 1 - y) with hh | hh
      · rw [e3 x (by omega), va_up_self, pk_un]
        intro e
        by_cases hko : k = o
        · have := hba hko; subst hko; omega
        · omega
      · have ei : x = n - 1 - y := by omega
        subst ei
        rw [e4 _ (by omega), va_up_self, pk_us]
    · rw [e4 i (by omega), va_up_self, pk_un (by omega)]
theorem if2 {α : Type} (h1 h2 : Bool) (X F : α) : (if h1 = true then (if h2 = true then X else F) else F) = (if (h1 && h2) = true then X else F) := by
  cases h1 <;> cases h2 <;> rfl
theorem Rel_copy {v : V1} {r : V2} {w : V1} {q : V2} (h : Rel v r w q) {k o la' N N' a b n : Nat} (hk : k < 4) (ho : o < 4) (h2l : la' < 3) (hN' : N' ≤ 60) (h5 : ∀ x, x < N → r (12 + k) x = q 2 (60 * k + x)) (ha : a + n ≤ N) (h1' : r 10 o = nI la') (h2' : q 0 o = nI la') (h3' : r 11 o = nI N') (h4' : q 1 o = nI N') (h5' : ∀ x, x < N' → r (12 + o) x = q 2 (60 * o + x)) (hb : b + n ≤ N') {q1 : V2} (e2 : ∀ i, i ≠ 2 → q1 i = q i) (e3 : ∀ x, x < n → q1 2 (60 * o + b + x) = q 2 (60 * k + a + x)) (e4 : ∀ i, (i < 60 * o + b ∨ 60 * o + b + n ≤ i) → q1 2 i = q 2 i) : Rel v (va_up r (12 + o) (va_cpy (r (12 + k)) (r (12 + o)) a b n)) w q1 := by
  refine Rel_sh h (sh_of h.2.2.1 ho (fun i _ _ e _ => va_up_ne _ _ e) (fun i _ => ?_) (fun i _ => ?_) (fun i _ => ?_) (fun i _ => ?_) (fun i hi => ?_) (Or.inr ⟨la', N', h2l, hN', ?_, ?_, ?_, ?_, fun x hx => ?_⟩)) (fun i hi => va_up_ne _ _ (by omega)) (fun i hi => e2 i (by omega))
  · rw [va_up_ne _ _ (by omega)]
  · rw [va_up_ne _ _ (by omega)]
  · rw [e2 0 (by decide)]
  · rw [e2 1 (by decide)]
  · exact e4 i (by omega)
  · rw [va_up_ne _ _ (by omega)]; exact h1'
  · rw [e2 0 (by decide)]; exact h2'
  · rw [va_up_ne _ _ (by omega)]; exact h3'
  · rw [e2 1 (by decide)]; exact h4'
  · rw [va_up_self]
    by_cases e : b ≤ x ∧ x < b + n
    · rw [pk_cpy_in e.1 e.2, h5 _ (by omega)]
      have e5 := e3 (x - b) (by omega)
      rw [show 60 * o + x = 60 * o + b + (x - b) by omega, e5]
      congr 1
      omega
    · rw [pk_cpy_out (by omega), h5' x hx, e4 _ (by omega)]
theorem op27 : Op27 Rel := by
  intro v r w q z0 z1 z2 z3 z4 hR0
  have hR := Rel_fault hR0 0
  have hS := hR.2.2.1
  unfold f_X7_copy f_X8_copy
  rw [isSheet8]
  cases hb : f_X7_isSheet z0 with
  | false => exact ⟨_, _, r, _, q, rfl, rfl, hR⟩
  | true =>
    obtain ⟨k, hk, rfl⟩ := isSheet_nI hb
    cases hb2 : f_X7_isSheet z2 with
    | false => exact ⟨_, _, r, _, q, rfl, rfl, hR⟩
    | true =>
      obtain ⟨o, ho, rfl⟩ := isSheet_nI hb2
      unfold f_X7_failed f_X8_fails f_X4_hasNothing
      simp only [if_true, in4 hk, cl4 hk, in4 ho, cl4 ho, Option.bind_some]
      rcases hS k hk with ⟨h1, h2⟩ | ⟨la, N, h0, hN, h1, h2, h3, h4, h5⟩
      · rw [h1, h2, if_pos rfl, if_pos rfl, if_pos rfl]
        exact ⟨_, _, _, _, _, rfl, rfl, Rel_fault hR 1⟩
      · rcases hS o ho with ⟨g1, g2⟩ | ⟨la', N', g0, hN', g1, g2, g3, g4, g5⟩
        · rw [g1, g2, h1, h2, if_neg (nIm1 (by omega)), if_neg Bool.false_ne_true, if_pos rfl, if_pos rfl, if_neg (nIm9 (by omega)), if_pos rfl]
          exact ⟨_, _, _, _, _, rfl, rfl, Rel_fault hR 1⟩
        · rw [h1, h2, g1, g2, if_neg (nIm1 (a := la) (by omega)), if_neg (nIm1 (a := la') (by omega)), if_neg Bool.false_ne_true, if_neg Bool.false_ne_true, if_neg (nIm9 (a := la) (by omega)), if_neg (nIm9 (a := la') (by omega))]
          by_cases e : nI la = nI la'
          · rw [if_pos e, if_pos e, if2, h4, g4]
            unfold f_X4_holds
            rw [h3, g3]
            by_cases c1 : z1 < 0
            · simp only [c1, if_true, Bool.false_and, Bool.false_eq_true, if_false]
              exact ⟨_, _, _, _, _, rfl, rfl, Rel_fault hR 3⟩
            by_cases c2 : z3 < 0
            · simp only [c1, c2, if_true, if_false, Bool.and_false, Bool.false_eq_true]
              exact ⟨_, _, _, _, _, rfl, rfl, Rel_fault hR 3⟩
            by_cases c3 : z4 < 0
            · simp only [c1, c2, c3, if_true, if_false, ite_self, Bool.and_false, Bool.false_eq_true]
              exact ⟨_, _, _, _, _, rfl, rfl, Rel_fault hR 3⟩
            by_cases c4 : nI N < z1
            · simp only [c1, c2, c3, c4, if_true, if_false, Bool.false_and, Bool.false_eq_true]
              exact ⟨_, _, _, _, _, rfl, rfl, Rel_fault hR 3⟩
            by_cases c5 : nI N' < z3
            · simp only [c1, c2, c3, c4, c5, if_true, if_false, Bool.and_false, Bool.false_eq_true]
              exact ⟨_, _, _, _, _, rfl, rfl, Rel_fault hR 3⟩
            by_cases c6 : nI N - z1 < z4
            · simp only [c1, c2, c3, c4, c5, c6, if_true, if_false, Bool.false_and, Bool.false_eq_true]
              exact ⟨_, _, _, _, _, rfl, rfl, Rel_fault hR 3⟩
            by_cases c7 : nI N' - z3 < z4
            · have c7' := i32_lt_iff.mp c7
              simp only [c1, c2, c3, c4, c5, c6, c7, c7', if_true, if_false, Bool.and_false, Bool.false_eq_true]
              exact ⟨_, _, _, _, _, rfl, rfl, Rel_fault hR 3⟩
            have c7' := i32_le_of_nlt c7
            obtain ⟨a, ha, rfl⟩ := nI_of2 (n := N) (nI_toInt (by omega)) c1 (i32_le_of_nlt c4)
            obtain ⟨b, hb, rfl⟩ := nI_of2 (n := N') (nI_toInt (by omega)) c2 (i32_le_of_nlt c5)
            obtain ⟨n, hn, rfl⟩ := nI_of (x := z4) c3
            have hn1 : n ≤ N - a := by
              rcases Nat.lt_or_ge (N - a) n with z | z
              · exact absurd (by rw [pk_sub ha]; exact nI_lt z hn) c6
              · exact z
            have hn2 : n ≤ N' - b := by
              rcases Nat.lt_or_ge (N' - b) n with z | z
              · exact absurd (by rw [pk_sub hb]; exact nI_lt z hn) c7
              · exact z
            have hok : cpOK (nI a) (nI b) (nI n) = true := by
              simp only [cpOK, c1, c2, c3, nI_clamp (n := a) (by omega), nI_clamp (n := b) (by omega), nI_clamp (n := n) (by omega), not_false_eq_true, decide_true, Bool.true_and, Bool.and_eq_true, decide_eq_true_eq]
              omega
            simp only [c1, c2, c3, c4, c5, c6, c7, c7', hok, if_true, if_false, Bool.and_self, nI_clamp (n := a) (by omega), nI_clamp (n := b) (by omega), nI_clamp (n := n) (by omega)]
            rcases Nat.lt_or_ge a b with hab | hab
            · rw [if_neg (nI_ge hab (by omega))]
              obtain ⟨q1, e1, e2, e3, e4⟩ := bwd_loop hk ho (a := a) (b := b) (n := n) (by omega) (by omega) (fun _ => by omega) n 0 80 (upd w 0 0) q (by omega) (by omega)
              rw [nI_0] at e1
              rw [e1]
              exact ⟨_, _, _, _, _, rfl, rfl, Rel_copy hR hk ho g0 hN' h5 (by omega) g1 g2 g3 g4 g5 (by omega) e2 (fun x hx => e3 x (by omega)) (fun i hi => e4 i (by omega))⟩
            · rw [if_pos (nI_le hab (by omega))]
              obtain ⟨q1, e1, e2, e3, e4⟩ := fwd_loop hk ho (a := a) (b := b) (n := n) (by omega) (by omega) (fun _ => by omega) n 0 80 (upd w 0 0) q (by omega) (by omega)
              rw [nI_0] at e1
              rw [e1]
              exact ⟨_, _, _, _, _, rfl, rfl, Rel_copy hR hk ho g0 hN' h5 (by omega) g1 g2 g3 g4 g5 (by omega) e2 (fun x hx => e3 x (by omega) hx) (fun i hi => e4 i (by omega))⟩
          · rw [if_neg e, if_neg e]
            exact ⟨_, _, _, _, _, rfl, rfl, Rel_fault hR 2⟩
