/-! packs: the numbers and their digits -/
def DR (d c S : Nat) : Nat → Nat
  | 0 => 1
  | n + 1 => if S.testBit (c - (n + 1)) = true then d * DR d c S n else DR d c S n
def DA (d c S a : Nat) : Nat := DR d c S (c - a)
theorem DA_c (d c S : Nat) : DA d c S c = 1 := by
  unfold DA
  rw [Nat.sub_self]
  rfl
theorem DA_s {d c S a : Nat} (h : a < c) : DA d c S a = if S.testBit a = true then d * DA d c S (a + 1) else DA d c S (a + 1) := by
  unfold DA
  rw [show c - a = (c - (a + 1)) + 1 by omega]
  show (if S.testBit (c - (c - (a + 1) + 1)) = true then _ else _) = _
  rw [show c - (c - (a + 1) + 1) = a by omega]
theorem DR_pos {d : Nat} (c S : Nat) (hd : 0 < d) : ∀ n, 0 < DR d c S n
  | 0 => Nat.one_pos
  | n + 1 => by
    have h := DR_pos c S hd n
    show 0 < (if S.testBit (c - (n + 1)) = true then d * DR d c S n else DR d c S n)
    split
    · exact Nat.mul_pos hd h
    · exact h
theorem DR_le {d : Nat} (c S : Nat) (hd : d ≤ 4) : ∀ n, DR d c S n ≤ 4 ^ n
  | 0 => Nat.le_refl 1
  | n + 1 => by
    have h := DR_le c S hd n
    show (if S.testBit (c - (n + 1)) = true then d * DR d c S n else DR d c S n) ≤ 4 ^ (n + 1)
    rw [Nat.pow_succ]
    have h2 : d * DR d c S n ≤ 4 * 4 ^ n := Nat.mul_le_mul hd h
    split <;> omega
theorem DA_dvd {d c S : Nat} : ∀ (n i : Nat), i + n ≤ c → DA d c S (i + n) ∣ DA d c S i
  | 0, i, _ => Nat.dvd_refl _
  | n + 1, i, h => by
    have h1 := DA_dvd (d := d) (c := c) (S := S) n (i + 1) (by omega)
    rw [show i + (n + 1) = i + 1 + n by omega]
    refine Nat.dvd_trans h1 ?_
    rw [DA_s (a := i) (by omega)]
    split
    · exact Nat.dvd_mul_left _ _
    · exact Nat.dvd_refl _
theorem dv_eq {d c S N B a i : Nat} (hi : i < a) (ha : a ≤ c) (h : N / DA d c S a = B / DA d c S a) : N / DA d c S (i + 1) = B / DA d c S (i + 1) := by
  have h1 := DA_dvd (d := d) (S := S) (a - (i + 1)) (i + 1) (c := c) (by omega)
  rw [show i + 1 + (a - (i + 1)) = a by omega] at h1
  obtain ⟨e, he⟩ := h1
  rw [he, ← Nat.div_div_eq_div_mul, ← Nat.div_div_eq_div_mul, h]
def dg (d c S N a : Nat) : Nat := (N / DA d c S (a + 1)) % d
theorem dg_eq {d c S N B a i : Nat} (hi : i < a) (ha : a ≤ c) (h : N / DA d c S a = B / DA d c S a) : dg d c S N i = dg d c S B i := by
  unfold dg
  rw [dv_eq hi ha h]
/-- what one article adds to room k -/
def tm (d c S : Nat) (bl : Nat → Nat) (N n k : Nat) : Nat := if (S.testBit n && decide (dg d c S N n = k)) = true then bl n else 0
def LD (d c S : Nat) (bl : Nat → Nat) (N : Nat) : Nat → Nat → Nat
  | 0, _ => 0
  | n + 1, k => LD d c S bl N n k + tm d c S bl N n k
theorem LD_eq {d c S : Nat} {bl : Nat → Nat} {N B a : Nat} (ha : a ≤ c) (h : N / DA d c S a = B / DA d c S a) (k : Nat) : ∀ n, n ≤ a → LD d c S bl N n k = LD d c S bl B n k
  | 0, _ => rfl
  | n + 1, hn => by
    show LD d c S bl N n k + tm d c S bl N n k = LD d c S bl B n k + tm d c S bl B n k
    unfold tm
    rw [LD_eq ha h k n (by omega), dg_eq (by omega) ha h]
theorem LD_mono {d c S : Nat} {bl : Nat → Nat} {N k m : Nat} : ∀ n, LD d c S bl N m k ≤ LD d c S bl N (m + n) k
  | 0 => Nat.le_refl _
  | n + 1 => Nat.le_trans (LD_mono n) (Nat.le_add_right _ _)
def LU (d c S : Nat) (bl : Nat → Nat) (N : Nat) : Nat → Nat → Nat
  | 0, _ => 0
  | n + 1, k => LU d c S bl N n k + tm d c S bl N (c - (n + 1)) k
theorem LD_LU {d c S : Nat} {bl : Nat → Nat} {N k : Nat} : ∀ n, n ≤ c → LD d c S bl N (c - n) k + LU d c S bl N n k = LD d c S bl N c k
  | 0, _ => rfl
  | n + 1, hn => by
    have h := LD_LU (d := d) (c := c) (S := S) (bl := bl) (N := N) (k := k) n (by omega)
    have e : c - n = (c - (n + 1)) + 1 := by omega
    rw [e] at h
    have e1 : LD d c S bl N (c - (n + 1) + 1) k = LD d c S bl N (c - (n + 1)) k + tm d c S bl N (c - (n + 1)) k := rfl
    have e2 : LU d c S bl N (n + 1) k = LU d c S bl N n k + tm d c S bl N (c - (n + 1)) k := rfl
    omega
theorem LU_le {d c S : Nat} {bl : Nat → Nat} (hb : ∀ j, bl j ≤ 9) {N k : Nat} : ∀ n, LU d c S bl N n k ≤ 9 * n
  | 0 => Nat.le_refl _
  | n + 1 => by
    have h := LU_le (d := d) (c := c) (S := S) hb (N := N) (k := k) n
    have e2 : LU d c S bl N (n + 1) k = LU d c S bl N n k + tm d c S bl N (c - (n + 1)) k := rfl
    have e3 : tm d c S bl N (c - (n + 1)) k ≤ 9 := by
      unfold tm
      split
      · exact hb _
      · omega
    omega
def RM (d c S N i : Nat) : Int32 := if S.testBit i = true then nI (dg d c S N i) else -9
theorem allb_iff {p : Nat → Bool} : ∀ (n x : Nat), allb p n x = true ↔ ∀ i, x ≤ i → i < x + n → p i = true
  | 0, x => by
    constructor
    · intro _ i h1 h2; omega
    · intro _; rfl
  | n + 1, x => by
    show (p x && allb p n (x + 1)) = true ↔ _
    rw [Bool.and_eq_true, allb_iff n (x + 1)]
    constructor
    · rintro ⟨h1, h2⟩ i h3 h4
      rcases Nat.eq_or_lt_of_le h3 with h | h
      · subst h; exact h1
      · exact h2 i h (by omega)
    · intro h
      exact ⟨h x (by omega) (by omega), fun i h1 h2 => h i (by omega) (by omega)⟩
def okN (d c S : Nat) (bl sl : Nat → Nat) (N : Nat) : Bool := allb (fun k => decide (LD d c S bl N c k ≤ sl k)) d 0
theorem okN_t {d c S : Nat} {bl sl : Nat → Nat} {N : Nat} (h : ∀ k, k < d → LD d c S bl N c k ≤ sl k) : okN d c S bl sl N = true := by
  unfold okN
  rw [allb_iff]
  intro i _ hi
  simpa using h i (by omega)
theorem okN_f {d c S : Nat} {bl sl : Nat → Nat} {N k : Nat} (hk : k < d) (h : sl k < LD d c S bl N c k) : okN d c S bl sl N = false := by
  cases hb : okN d c S bl sl N with
  | false => rfl
  | true =>
    unfold okN at hb
    rw [allb_iff] at hb
    have := of_decide_eq_true (hb k (by omega) (by omega))
    omega
def vis (d c S : Nat) (bl sl : Nat → Nat) (N : Nat) (st : Nat × (Nat → Int32)) : Nat × (Nat → Int32) := if okN d c S bl sl N = true then (if st.1 = 0 then (1, RM d c S N) else (st.1 + 1, st.2)) else st
theorem vis_le {d c S : Nat} {bl sl : Nat → Nat} : ∀ (n k : Nat) (st : Nat × (Nat → Int32)), (iter (vis d c S bl sl) k n st).1 ≤ st.1 + n
  | 0, _, _ => Nat.le_refl _
  | n + 1, k, st => by
    have h := vis_le (d := d) (c := c) (S := S) (bl := bl) (sl := sl) n (k + 1) (vis d c S bl sl k st)
    have h2 : (vis d c S bl sl k st).1 ≤ st.1 + 1 := by
      unfold vis
      split
      · split
        · show 1 ≤ _; omega
        · exact Nat.le_refl _
      · omega
    show (iter (vis d c S bl sl) (k + 1) n (vis d c S bl sl k st)).1 ≤ _
    omega
/-- nothing found, or no such article: no room -/
theorem vis_no {d c S : Nat} (hS : S < 2 ^ c) {bl sl : Nat → Nat} : ∀ (n k : Nat) (st : Nat × (Nat → Int32)), (∀ i, (st.1 = 0 ∨ c ≤ i) → st.2 i = -9) → ∀ i, ((iter (vis d c S bl sl) k n st).1 = 0 ∨ c ≤ i) → (iter (vis d c S bl sl) k n st).2 i = -9
  | 0, _, _, h => h
  | n + 1, k, st, h => by
    refine vis_no hS n (k + 1) (vis d c S bl sl k st) ?_
    intro i hi
    unfold vis at hi ⊢
    split at hi
    · rename_i h1
      rw [if_pos h1]
      split at hi
      · rename_i h2
        rw [if_pos h2]
        rcases hi with hi | hi
        · exact absurd hi (by show ¬ (1 : Nat) = 0; omega)
        · show RM d c S k i = -9
          unfold RM
          have : S.testBit i = false := Nat.testBit_lt_two_pow (Nat.lt_of_lt_of_le hS (Nat.pow_le_pow_right (by decide) hi))
          rw [this, if_neg Bool.false_ne_true]
      · rename_i h2
        rw [if_neg h2]
        rcases hi with hi | hi
        · exact absurd hi (by show ¬ st.1 + 1 = 0; omega)
        · exact h i (Or.inr hi)
    · rename_i h1
      rw [if_neg h1]
      exact h i hi
/-- the block of numbers that put article a into room k -/
theorem blk {d c S a B k : Nat} (hd : 0 < d) (ha : a < c) (hs : S.testBit a = true) (hB : DA d c S a ∣ B) (hk : k < d) : DA d c S (a + 1) ∣ B + k * DA d c S (a + 1) ∧ dg d c S (B + k * DA d c S (a + 1)) a = k ∧ (B + k * DA d c S (a + 1)) / DA d c S a = B / DA d c S a ∧ ∀ N, B + k * DA d c S (a + 1) ≤ N → N < B + k * DA d c S (a + 1) + DA d c S (a + 1) → N / DA d c S (a + 1) = (B + k * DA d c S (a + 1)) / DA d c S (a + 1) := by
  have hp : 0 < DA d c S (a + 1) := DR_pos c S hd _
  have e := DA_s (d := d) (S := S) ha
  rw [if_pos hs] at e
  obtain ⟨b, rfl⟩ := hB
  unfold dg
  rw [e]
  generalize DA d c S (a + 1) = D at hp ⊢
  have e1 : d * D * b + k * D = (d * b + k) * D := by
    rw [Nat.add_mul, Nat.mul_right_comm]
  rw [e1, Nat.mul_div_cancel _ hp]
  refine ⟨Nat.dvd_mul_left _ _, ?_, ?_, ?_⟩
  · rw [Nat.mul_add_mod, Nat.mod_eq_of_lt hk]
  · rw [Nat.mul_div_cancel_left _ (Nat.mul_pos hd hp), Nat.mul_comm d D, ← Nat.div_div_eq_div_mul, Nat.mul_div_cancel _ hp, Nat.mul_add_div hd, Nat.div_eq_of_lt hk, Nat.add_zero]
  · intro N h1 h2
    obtain ⟨m, rfl⟩ : ∃ m, N = (d * b + k) * D + m := ⟨N - (d * b + k) * D, by omega⟩
    rw [Nat.mul_comm _ D, Nat.mul_add_div hp, Nat.div_eq_of_lt (by omega), Nat.add_zero]
