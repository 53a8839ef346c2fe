/-! loops as iterations; laughs; company -/
def iter {α : Type} (f : Nat → α → α) : Nat → Nat → α → α
  | _, 0, a => a
  | k, n + 1, a => iter f (k + 1) n (f k a)
theorem iter_end {α : Type} (f : Nat → α → α) : ∀ (n k : Nat) (a : α), iter f k (n + 1) a = f (k + n) (iter f k n a)
  | 0, k, a => rfl
  | n + 1, k, a => by
    have h := iter_end f n (k + 1) (f k a)
    have e : k + 1 + n = k + (n + 1) := by omega
    rw [e] at h
    exact h
theorem iter_congr {α : Type} {f g : Nat → α → α} : ∀ (n k : Nat) (a : α), (∀ j a, k ≤ j → j < k + n → f j a = g j a) → iter f k n a = iter g k n a
  | 0, _, _, _ => rfl
  | n + 1, k, a, h => by
    show iter f (k + 1) n (f k a) = iter g (k + 1) n (g k a)
    rw [h k a (Nat.le_refl k) (by omega)]
    exact iter_congr n (k + 1) _ (fun j a h1 h2 => h j a (by omega) (by omega))
def pw {α : Type} (f : α → α) : Nat → α → α
  | 0, x => x
  | n + 1, x => pw f n (f x)
theorem pw_fix {α : Type} {f : α → α} {x : α} (h : f x = x) : ∀ n, pw f n x = x
  | 0 => rfl
  | n + 1 => by
    show pw f n (f x) = x
    rw [h]
    exact pw_fix h n
theorem and1 (y : Int32) : y &&& 1 = 0 ∨ y &&& 1 = 1 := by
  obtain ⟨j, hj, e⟩ := pk_andE y (m := 1) 1 (by decide)
  rw [e]
  match j, hj with
  | 0, _ => exact Or.inl rfl
  | 1, _ => exact Or.inr rfl
  | j + 2, h => exact absurd h (by omega)
theorem isOf8 (x a : Int32) : f_X8_isOf x a = f_X7_has x a := by
  unfold f_X8_isOf f_X7_has
  rcases and1 (x >>> (a &&& 31)) with h | h <;> rw [h] <;> rfl
/-- what an article's laugh is -/
def LA (kd gy : Nat → Int32) (j : Nat) : Int32 := f_X0_laughOfKind (kd j) (gy j)
theorem lau_nat : ∀ z, z < 3 → ∀ g, g < 10 → ∃ s, s ≤ 18 ∧ f_X0_laughOfKind (nI z) (nI g) = nI s := by
  have h : ∀ z : Fin 3, ∀ g : Fin 10, ∃ s : Fin 19, f_X0_laughOfKind (nI z) (nI g) = nI s := by decide
  intro z hz g hg
  obtain ⟨s, hs⟩ := h ⟨z, hz⟩ ⟨g, hg⟩
  exact ⟨s.1, by omega, hs⟩
theorem LA_nat {kd gy : Nat → Int32} (h1 : ∀ j, ∃ z, z < 3 ∧ kd j = nI z) (h2 : ∀ j, ∃ z, z ≤ 9 ∧ gy j = nI z) (j : Nat) : ∃ s, s ≤ 18 ∧ LA kd gy j = nI s := by
  obtain ⟨z, hz, e1⟩ := h1 j
  obtain ⟨g, hg, e2⟩ := h2 j
  unfold LA
  rw [e1, e2]
  exact lau_nat z hz g (by omega)
theorem lau8 : ∀ z : Fin 3, ∀ g : Fin 10, (if nI z = 1 then (if nI g ≤ 0 then some 0 else some (nI g - 1)) else (if nI z = 0 then some (nI g) else some (2 * nI g))) = some (f_X0_laughOfKind (nI z) (nI g)) := by decide
theorem M_laughOf {w : V1} {q : V2} {kd gy : Nat → Int32} (h4 : q 4 = kd) (h6 : q 6 = gy) (h1 : ∀ j, ∃ z, z < 3 ∧ kd j = nI z) (h2 : ∀ j, ∃ z, z ≤ 9 ∧ gy j = nI z) {j : Nat} (hj : j < 6) : f_X8_laughOf w q (nI j) = some (LA kd gy j) := by
  obtain ⟨z, hz, e1⟩ := h1 j
  obtain ⟨g, hg, e2⟩ := h2 j
  unfold f_X8_laughOf LA
  have hi := inR_nI (k := j) (N := 6) hj (by decide)
  simp only [hi, if_true, cl6 hj, h4, h6, e1, e2]
  exact lau8 ⟨z, hz⟩ ⟨g, by omega⟩
def LGS (c : Nat) (kd gy : Nat → Int32) (x : Int32) : Int32 := iter (fun j a => if f_X7_has x (nI j) = true then a + LA kd gy j else a) 0 c 0
theorem C_laugh_loop {v : V1} {r : V2} {c : Nat} {kd gy : Nat → Int32} (hv : v 2 = nI c) (hc : c ≤ 6) (h0 : r 0 = kd) (h2 : r 2 = gy) (x : Int32) : ∀ (n k fu : Nat) (acc : Int32), k + n = c → n < fu → f_X1_laughOf_4 v r x fu acc (nI k) = some (iter (fun j a => if f_X7_has x (nI j) = true then a + LA kd gy j else a) k n acc) := by
  intro n
  induction n with
  | zero =>
    intro k fu acc hk hf
    obtain ⟨f', rfl⟩ : ∃ f', fu = f' + 1 := ⟨fu - 1, by omega⟩
    rw [f_X1_laughOf_4_s, hv, if_pos (nI_le (by omega) (by omega))]
    rfl
  | succ n ih =>
    intro k fu acc hk hf
    obtain ⟨f', rfl⟩ : ∃ f', fu = f' + 1 := ⟨fu - 1, by omega⟩
    rw [f_X1_laughOf_4_s, hv, if_neg (nI_ge (by omega) (by omega))]
    have hk6 : k < 6 := by omega
    by_cases h : f_X7_has x (nI k) = true
    · rw [if_pos h, if_pos (inR_nI hk6 (by decide)), cl6 hk6, nI_1, ih (k + 1) f' _ (by omega) (by omega)]
      show _ = some (iter _ (k + 1) n (if f_X7_has x (nI k) = true then acc + LA kd gy k else acc))
      rw [if_pos h]
      unfold f_X0_laugh LA
      rw [h0, h2]
    · rw [if_neg h, nI_1, ih (k + 1) f' _ (by omega) (by omega)]
      show _ = some (iter _ (k + 1) n (if f_X7_has x (nI k) = true then acc + LA kd gy k else acc))
      rw [if_neg h]
theorem C_laughOf {v : V1} {r : V2} {c : Nat} {kd gy : Nat → Int32} (hv : v 2 = nI c) (hc : c ≤ 6) (h0 : r 0 = kd) (h2 : r 2 = gy) (x : Int32) : f_X1_laughOf v r x = some (LGS c kd gy x) := C_laugh_loop hv hc h0 h2 x c 0 80 0 (by omega) (by omega)
theorem M_laugh_loop {w : V1} {q : V2} {c : Nat} {kd gy : Nat → Int32} (hw : w 4 = nI c) (hc : c ≤ 6) (h4 : q 4 = kd) (h6 : q 6 = gy) (h1 : ∀ j, ∃ z, z < 3 ∧ kd j = nI z) (h2 : ∀ j, ∃ z, z ≤ 9 ∧ gy j = nI z) (x : Int32) : ∀ (n k fu : Nat) (acc : Int32), k + n = c → n < fu → f_X8_laughsOf_4 w q x fu acc (nI k) = some (iter (fun j a => if f_X7_has x (nI j) = true then a + LA kd gy j else a) k n acc) := by
  intro n
  induction n with
  | zero =>
    intro k fu acc hk hf
    obtain ⟨f', rfl⟩ : ∃ f', fu = f' + 1 := ⟨fu - 1, by omega⟩
    rw [f_X8_laughsOf_4_s, hw, if_pos (nI_le (by omega) (by omega))]
    rfl
  | succ n ih =>
    intro k fu acc hk hf
    obtain ⟨f', rfl⟩ : ∃ f', fu = f' + 1 := ⟨fu - 1, by omega⟩
    rw [f_X8_laughsOf_4_s, hw, if_neg (nI_ge (by omega) (by omega)), isOf8]
    have hk6 : k < 6 := by omega
    by_cases h : f_X7_has x (nI k) = true
    · rw [if_pos h, M_laughOf h4 h6 h1 h2 hk6]
      show f_X8_laughsOf_4 w q x f' (acc + LA kd gy k) (nI k + 1) = some (iter _ (k + 1) n (if f_X7_has x (nI k) = true then acc + LA kd gy k else acc))
      rw [nI_1, ih (k + 1) f' _ (by omega) (by omega), if_pos h]
    · rw [if_neg h, nI_1, ih (k + 1) f' _ (by omega) (by omega)]
      show _ = some (iter _ (k + 1) n (if f_X7_has x (nI k) = true then acc + LA kd gy k else acc))
      rw [if_neg h, Int32.add_zero]
theorem M_laughsOf {w : V1} {q : V2} {c : Nat} {kd gy : Nat → Int32} (hw : w 4 = nI c) (hc : c ≤ 6) (h4 : q 4 = kd) (h6 : q 6 = gy) (h1 : ∀ j, ∃ z, z < 3 ∧ kd j = nI z) (h2 : ∀ j, ∃ z, z ≤ 9 ∧ gy j = nI z) (x : Int32) : f_X8_laughsOf w q x = some (LGS c kd gy x) := M_laugh_loop hw hc h4 h6 h1 h2 x c 0 80 0 (by omega) (by omega)
theorem LGS_nat {c : Nat} {kd gy : Nat → Int32} (h1 : ∀ j, ∃ z, z < 3 ∧ kd j = nI z) (h2 : ∀ j, ∃ z, z ≤ 9 ∧ gy j = nI z) (x : Int32) : ∃ s, s ≤ 18 * c ∧ LGS c kd gy x = nI s := by
  unfold LGS
  induction c with
  | zero => exact ⟨0, by omega, rfl⟩
  | succ c ih =>
    obtain ⟨s, hs, e⟩ := ih
    rw [iter_end, e, Nat.zero_add]
    by_cases h : f_X7_has x (nI c) = true
    · rw [if_pos h]
      obtain ⟨z, hz, e2⟩ := LA_nat h1 h2 c
      exact ⟨s + z, by omega, by rw [e2, nI_add]⟩
    · rw [if_neg h]
      exact ⟨s, by omega, rfl⟩
/-- the number whose bits are p -/
def bs (p : Nat → Bool) : Nat → Nat
  | 0 => 0
  | k + 1 => (if p k = true then 2 ^ k else 0) + bs p k
theorem bs_lt (p : Nat → Bool) : ∀ k, bs p k < 2 ^ k
  | 0 => by show 0 < 1; omega
  | k + 1 => by
    have h := bs_lt p k
    rw [Nat.pow_succ]
    show (if p k = true then 2 ^ k else 0) + bs p k < _
    split <;> omega
theorem bs_bit (p : Nat → Bool) : ∀ k j, (bs p k).testBit j = (decide (j < k) && p j)
  | 0, j => by simp [bs]
  | k + 1, j => by
    have ih := bs_bit p k j
    have hlt := bs_lt p k
    show ((if p k = true then 2 ^ k else 0) + bs p k).testBit j = _
    rcases Nat.lt_trichotomy j k with h | h | h
    · split
      · rw [Nat.testBit_two_pow_add_gt h, ih]; simp [h, Nat.lt_succ_of_lt h]
      · rw [Nat.zero_add, ih]; simp [h, Nat.lt_succ_of_lt h]
    · subst h
      have h0 : (bs p j).testBit j = false := Nat.testBit_lt_two_pow hlt
      split
      · rename_i hp; rw [Nat.testBit_two_pow_add_eq, h0]; simp [hp]
      · rename_i hp; rw [Nat.zero_add, h0]; simp [hp]
    · have h1 : bs p (k + 1) < 2 ^ (k + 1) := bs_lt p (k + 1)
      have h2 : (bs p (k + 1)).testBit j = false := Nat.testBit_lt_two_pow (Nat.lt_of_lt_of_le h1 (Nat.pow_le_pow_right (by decide) h))
      have h3 : ¬ j < k + 1 := by omega
      simp only [h3, decide_false, Bool.false_and]
      exact h2
theorem bs_self {m c : Nat} (h : m < 2 ^ c) : bs (fun j => m.testBit j) c = m := by
  apply Nat.eq_of_testBit_eq
  intro j
  rw [bs_bit]
  by_cases hj : j < c
  · simp [hj]
  · have h0 : m.testBit j = false := Nat.testBit_lt_two_pow (Nat.lt_of_lt_of_le h (Nat.pow_le_pow_right (by decide) (by omega)))
    simp [h0]
theorem bs_split (p g : Nat → Bool) : ∀ c, bs (fun j => p j && g j) c + bs (fun j => p j && !g j) c = bs p c
  | 0 => rfl
  | c + 1 => by
    have h := bs_split p g c
    show ((if (p c && g c) = true then 2 ^ c else 0) + bs (fun j => p j && g j) c) + ((if (p c && !g c) = true then 2 ^ c else 0) + bs (fun j => p j && !g j) c) = (if p c = true then 2 ^ c else 0) + bs p c
    cases p c <;> cases g c <;> simp <;> omega
theorem shl6 : ∀ j, j < 6 → (1 : Int32) <<< (nI j &&& 31) = nI (2 ^ j) := by decide
theorem or6 : ∀ j : Fin 6, ∀ a : Fin 64, a.1 < 2 ^ j.1 → nI a ||| nI (2 ^ j.1) = nI (2 ^ j.1 + a) := by decide
theorem or0 (x : Int32) : x ||| 0 = x := by
  apply Int32.toBitVec_inj.mp
  simp
theorem iter_bs {f : Nat → Int32 → Int32} {p : Nat → Bool} : ∀ {c : Nat}, c ≤ 6 → (∀ j a, j < c → f j a = if p j = true then a ||| (1 : Int32) <<< (nI j &&& 31) else a) → iter f 0 c 0 = nI (bs p c)
  | 0, _, _ => rfl
  | c + 1, hc, h => by
    have ih := iter_bs (f := f) (p := p) (c := c) (by omega) (fun j a hj => h j a (by omega))
    rw [iter_end, ih, Nat.zero_add, h c _ (by omega)]
    show _ = nI ((if p c = true then 2 ^ c else 0) + bs p c)
    have hlt := bs_lt p c
    have h64 : 2 ^ c ≤ 2 ^ 6 := Nat.pow_le_pow_right (by decide) (by omega)
    split
    · rw [shl6 c (by omega)]
      exact or6 ⟨c, by omega⟩ ⟨bs p c, by omega⟩ hlt
    · rw [Nat.zero_add]
theorem has6 : ∀ m : Fin 64, ∀ j : Fin 6, f_X7_has (nI m) (nI j) = m.1.testBit j.1 := by decide
theorem hasb {m j : Nat} (hm : m < 64) (hj : j < 6) : f_X7_has (nI m) (nI j) = m.testBit j := has6 ⟨m, hm⟩ ⟨j, hj⟩
theorem sub6 : ∀ m : Fin 64, ∀ b : Fin 64, m.1 &&& b.1 = b.1 → nI m &&& (nI b ^^^ (-1)) = nI (m.1 - b.1) := by decide +kernel
def LV (c : Nat) (kd gy lo : Nat → Int32) (x : Int32) : Int32 := iter (fun j a => if f_X7_has x (nI j) = true then (if lo j ≤ LGS c kd gy x - LA kd gy j then a else a ||| (1 : Int32) <<< (nI j &&& 31)) else a) 0 c 0
/-- one round of company -/
def CP (c : Nat) (kd gy lo : Nat → Int32) (x : Int32) : Int32 := x &&& (LV c kd gy lo x ^^^ (-1))
def CO (c : Nat) (kd gy lo : Nat → Int32) (x : Int32) : Int32 := pw (CP c kd gy lo) 6 x
