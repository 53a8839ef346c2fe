/-! what class and reference hold in common -/
def RG (c d k m t : Nat) (kd bk gy lo sp cn vl : Nat → Int32) : Prop := c ≤ 6 ∧ d ≤ 4 ∧ (0 < c → 0 < d) ∧ k < 64 ∧ m < 2 ^ c ∧ t ≤ 8 ∧ (∀ j, ∃ z, z < 3 ∧ kd j = nI z) ∧ (∀ j, ∃ z, z ≤ 9 ∧ bk j = nI z) ∧ (∀ j, ∃ z, z ≤ 9 ∧ gy j = nI z) ∧ (∀ j, ∃ z, z ≤ 49 ∧ lo j = nI z) ∧ (∀ j, ∃ z, z ≤ 9 ∧ sp j = nI z) ∧ (∀ j, ∃ z, z < 64 ∧ cn j = nI z) ∧ (∀ j, ∃ z, z ≤ 99 ∧ vl j = nI z)
def CS (c d k m t : Nat) (kd bk gy lo sp cn vl : Nat → Int32) (v : V1) (r : V2) : Prop := v 2 = nI c ∧ v 3 = nI d ∧ v 4 = nI k ∧ v 5 = nI m ∧ v 6 = nI t ∧ r 0 = kd ∧ r 1 = bk ∧ r 2 = gy ∧ r 3 = lo ∧ r 4 = sp ∧ r 5 = cn ∧ r 6 = vl
def MS (c d k m t : Nat) (kd bk gy lo sp cn vl : Nat → Int32) (w : V1) (q : V2) : Prop := w 4 = nI c ∧ w 3 = nI d ∧ w 2 = nI k ∧ w 5 = nI m ∧ w 13 = nI t ∧ q 4 = kd ∧ q 5 = bk ∧ q 6 = gy ∧ q 7 = lo ∧ q 3 = sp ∧ q 16 = cn ∧ q 17 = vl
def SH (r q : V2) : Prop := ∀ j, j < 4 → (r 10 j = -1 ∧ q 0 j = -9) ∨ ∃ la n : Nat, la < 3 ∧ n ≤ 60 ∧ r 10 j = nI la ∧ q 0 j = nI la ∧ r 11 j = nI n ∧ q 1 j = nI n ∧ ∀ i, i < n → r (12 + j) i = q 2 (60 * j + i)
def Rel (v : V1) (r : V2) (w : V1) (q : V2) : Prop := v 0 = w 1 ∧ v 1 = w 0 ∧ SH r q ∧ ∃ (c d k m t : Nat) (kd bk gy lo sp cn vl : Nat → Int32), RG c d k m t kd bk gy lo sp cn vl ∧ CS c d k m t kd bk gy lo sp cn vl v r ∧ MS c d k m t kd bk gy lo sp cn vl w q
theorem SH.c {r q r1 q1 : V2} (h : SH r q) (h1 : ∀ i, 10 ≤ i → r1 i = r i) (h2 : ∀ i, i < 3 → q1 i = q i) : SH r1 q1 := by
  intro j hj
  rw [h1 10 (by omega), h1 11 (by omega), h1 (12 + j) (by omega), h2 0 (by omega), h2 1 (by omega), h2 2 (by omega)]
  exact h j hj
theorem inR_nI {k N : Nat} (h : k < N) (hN : N < 2 ^ 31) : inR (nI k) N = true := by
  have h1 : ¬ nI k < 0 := nI_pos (by omega)
  have h2 : (nI k).toNatClampNeg = k := nI_clamp (by omega)
  simp only [inR, h1, h2, decide_false, Bool.false_or]
  simp
  omega
theorem cl6 {j : Nat} (h : j < 6) : (nI j).toNatClampNeg = j := nI_clamp (by omega)
theorem art_cases {v w : V1} {c : Nat} (hv : v 2 = nI c) (hw : w 4 = nI c) (hc : c ≤ 6) (r q : V2) (a : Int32) : (f_X1_isArticle v r a = false ∧ f_X8_isArticle w q a = false) ∨ ∃ j, j < c ∧ a = nI j ∧ f_X1_isArticle v r a = true ∧ f_X8_isArticle w q a = true := by
  unfold f_X1_isArticle f_X8_isArticle
  rw [hv, hw]
  rcases pk_ix a (n := c) (by omega) with h | h | ⟨j, hj, rfl⟩
  · left; simp [h]
  · left; simp [h]
  · right
    refine ⟨j, hj, rfl, ?_⟩
    have h1 : ¬ nI j < 0 := nI_pos (by omega)
    have h2 : ¬ nI c ≤ nI j := nI_ge hj (by omega)
    simp [h1, h2]
theorem room_cases {v w : V1} {c : Nat} (hv : v 3 = nI c) (hw : w 3 = nI c) (hc : c ≤ 4) (r q : V2) (a : Int32) : (f_X1_isRoom v r a = false ∧ f_X8_isRoom w q a = false) ∨ ∃ j, j < c ∧ a = nI j ∧ f_X1_isRoom v r a = true ∧ f_X8_isRoom w q a = true := by
  unfold f_X1_isRoom f_X8_isRoom
  rw [hv, hw]
  rcases pk_ix a (n := c) (by omega) with h | h | ⟨j, hj, rfl⟩
  · left; simp [h]
  · left; simp [h]
  · right
    refine ⟨j, hj, rfl, ?_⟩
    have h1 : ¬ nI j < 0 := nI_pos (by omega)
    have h2 : ¬ nI c ≤ nI j := nI_ge hj (by omega)
    simp [h1, h2]
theorem within8 : f_X8_within = f_X7_within := rfl
theorem isSheet8 : f_X8_isSheet = f_X7_isSheet := rfl
theorem isSort8 : f_X8_isSort = f_X7_isLane := rfl
theorem isCorner8 : f_X8_isCorner = f_X7_isCorner := rfl
theorem within_t {a lo hi : Int32} (h : f_X7_within a lo hi = true) : ¬ a < lo ∧ ¬ hi < a := by
  unfold f_X7_within at h
  by_cases h1 : a < lo
  · simp [h1] at h
  · by_cases h2 : hi < a
    · simp [h1, h2] at h
    · exact ⟨h1, h2⟩
theorem i32_le_of_nlt {a b : Int32} (h : ¬ a < b) : b ≤ a := by
  rw [Int32.le_iff_toInt_le]
  rw [Int32.lt_iff_toInt_lt] at h
  omega
theorem within_nI {a : Int32} {M : Nat} (hM : M < 2 ^ 31) (h : f_X7_within a 0 (nI M) = true) : ∃ z, z ≤ M ∧ a = nI z := by
  obtain ⟨h1, h2⟩ := within_t h
  exact nI_of2 (n := M) (nI_toInt hM) h1 (i32_le_of_nlt h2)
theorem isSheet_nI {a : Int32} (h : f_X7_isSheet a = true) : ∃ z, z < 4 ∧ a = nI z := by
  obtain ⟨z, h1, h2⟩ := within_nI (M := 3) (by decide) h
  exact ⟨z, by omega, h2⟩
theorem isLane_nI {a : Int32} (h : f_X7_isLane a = true) : ∃ z, z < 3 ∧ a = nI z := by
  obtain ⟨z, h1, h2⟩ := within_nI (M := 2) (by decide) h
  exact ⟨z, by omega, h2⟩
theorem isCorner_nI {a : Int32} (h : f_X7_isCorner a = true) : ∃ z, z < 64 ∧ a = nI z := by
  obtain ⟨z, h1, h2⟩ := within_nI (M := 63) (by decide) h
  exact ⟨z, by omega, h2⟩
theorem stands_cases {v w : V1} {c : Nat} (hv : v 2 = nI c) (hw : w 4 = nI c) (hc : c ≤ 6) (r : V2) : (c = 0 ∧ f_X1_stands v r = false ∧ w 4 = 0) ∨ (0 < c ∧ f_X1_stands v r = true ∧ ¬ w 4 = 0) := by
  unfold f_X1_stands
  rw [hv, hw]
  rcases Nat.eq_zero_or_pos c with h | h
  · left; subst h; exact ⟨rfl, rfl, rfl⟩
  · right
    have h1 : ¬ nI c ≤ 0 := nI_nle h (by omega)
    have h2 : ¬ nI c = 0 := nI_ne0 h (by omega)
    simp [h1, h2, h]
theorem ro1 {α : Type} {x y : Option α} (h : x = y) (hn : ∃ z, y = some z) : ∃ z, x = some z ∧ y = some z := by
  obtain ⟨z, hz⟩ := hn
  exact ⟨z, h.trans hz, hz⟩
theorem op7 : Op7 Rel := by
  rintro v r w q ⟨ht, hf, hS, c, d, k, m, t, kd, bk, gy, lo, sp, cn, vl, hG, hC, hM⟩
  refine ⟨_, rfl, ?_⟩
  unfold f_X7_there f_X8_there
  rcases stands_cases hC.1 hM.1 hG.1 r with ⟨-, h1, h2⟩ | ⟨-, h1, h2⟩
  · simp [h1, h2]
  · simp [h1, h2, hC.2.2.2.1, hM.2.2.2.1]
theorem op31 : Op31 Rel := by
  rintro v r w q ⟨ht, -⟩
  exact ⟨_, rfl, ht.symm⟩
theorem op32 : Op32 Rel := by
  rintro v r w q ⟨-, hf, -⟩
  exact ⟨_, rfl, hf.symm⟩
theorem op2 : Op2 Rel := by
  rintro v r w q z0 ⟨ht, hf, hS, c, d, k, m, t, kd, bk, gy, lo, sp, cn, vl, hG, hC, hM⟩
  unfold f_X7_space f_X8_space
  rcases room_cases hC.2.1 hM.2.1 hG.2.1 r q z0 with ⟨h1, h2⟩ | ⟨j, hj, rfl, h1, h2⟩
  · exact ⟨-1, by simp [h1], by simp [h2]⟩
  · have h3 : inR (nI j) 4 = true := inR_nI (by have := hG.2.1; omega) (by decide)
    have h4 : (nI j).toNatClampNeg = j := nI_clamp (by have := hG.2.1; omega)
    refine ⟨sp j, ?_, ?_⟩
    · rw [if_pos h1, if_pos h3, h4, hC.2.2.2.2.2.2.2.2.2.1]
    · rw [if_pos h2, if_pos h3, h4, hM.2.2.2.2.2.2.2.2.2.1]
