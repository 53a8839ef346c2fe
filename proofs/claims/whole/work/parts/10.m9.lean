/-! by what was heard -/
def lan (kd gy : Nat → Int32) (j : Nat) : Nat := (LA kd gy j).toNatClampNeg
theorem lan_eq {kd gy : Nat → Int32} (h1 : ∀ j, ∃ z, z < 3 ∧ kd j = nI z) (h2 : ∀ j, ∃ z, z ≤ 9 ∧ gy j = nI z) (j : Nat) : LA kd gy j = nI (lan kd gy j) ∧ lan kd gy j ≤ 18 := by
  obtain ⟨s, hs, e⟩ := LA_nat h1 h2 j
  unfold lan
  rw [e, nI_clamp (by omega)]
  exact ⟨rfl, hs⟩
def LN (p : Nat → Bool) (f : Nat → Nat) : Nat → Nat
  | 0 => 0
  | c + 1 => LN p f c + (if p c = true then f c else 0)
theorem LN_le {p : Nat → Bool} {f : Nat → Nat} {B : Nat} (h : ∀ j, f j ≤ B) : ∀ c, LN p f c ≤ B * c
  | 0 => Nat.le_refl _
  | c + 1 => by
    have h1 := LN_le (p := p) h c
    have h2 := h c
    show LN p f c + (if p c = true then f c else 0) ≤ B * (c + 1)
    rw [Nat.mul_succ]
    split <;> omega
theorem LN_congr {p p' : Nat → Bool} {f f' : Nat → Nat} : ∀ c, (∀ j, j < c → p j = p' j ∧ f j = f' j) → LN p f c = LN p' f' c
  | 0, _ => rfl
  | c + 1, h => by
    show LN p f c + (if p c = true then f c else 0) = LN p' f' c + (if p' c = true then f' c else 0)
    rw [LN_congr c (fun j hj => h j (by omega)), (h c (by omega)).1, (h c (by omega)).2]
theorem LGS_LN {c m : Nat} {kd gy : Nat → Int32} (hc : c ≤ 6) (hm : m < 64) (h1 : ∀ j, ∃ z, z < 3 ∧ kd j = nI z) (h2 : ∀ j, ∃ z, z ≤ 9 ∧ gy j = nI z) : LGS c kd gy (nI m) = nI (LN (fun j => m.testBit j) (lan kd gy) c) := by
  unfold LGS
  induction c with
  | zero => rfl
  | succ c ih =>
    rw [iter_end, ih (by omega), Nat.zero_add, hasb hm (by omega), (lan_eq h1 h2 c).1]
    show _ = nI (LN _ _ c + (if m.testBit c = true then lan kd gy c else 0))
    split
    · rw [nI_add]
    · rw [Nat.add_zero]
theorem tb_off : ∀ m : Fin 64, ∀ a j : Fin 6, (m.1 - (m.1 &&& 2 ^ a.1)).testBit j.1 = (m.1.testBit j.1 && !decide (j = a)) := by decide +kernel
theorem LN_off {m a : Nat} {f : Nat → Nat} (hm : m < 64) (s : Nat) : ∀ c, c ≤ 6 → a < c → LN (fun j => (m - (m &&& 2 ^ a)).testBit j) f c + (if m.testBit a = true then s else 0) = LN (fun j => m.testBit j) (fun j => if j = a then s else f j) c := by
  intro c
  induction c with
  | zero => intro _ h; omega
  | succ c ih =>
    intro hc ha
    have e := tb_off ⟨m, hm⟩ ⟨a, by omega⟩ ⟨c, by omega⟩
    show LN _ f c + (if (m - (m &&& 2 ^ a)).testBit c = true then f c else 0) + _ = LN _ _ c + (if m.testBit c = true then (if c = a then s else f c) else 0)
    rw [e]
    rcases Nat.lt_or_ge a c with h | h
    · have h3 := ih (by omega) h
      have hne : ¬ c = a := by omega
      have hne2 : ¬ (⟨c, by omega⟩ : Fin 6) = ⟨a, by omega⟩ := fun z => hne (by simpa using z)
      simp only [hne2, decide_false, Bool.not_false, Bool.and_true, hne, if_false]
      omega
    · have hca : c = a := by omega
      subst hca
      have h3 : LN (fun j => (m - (m &&& 2 ^ c)).testBit j) f c = LN (fun j => m.testBit j) (fun j => if j = c then s else f j) c := by
        apply LN_congr
        intro j hj
        have e2 := tb_off ⟨m, hm⟩ ⟨c, by omega⟩ ⟨j, by omega⟩
        have hne : ¬ j = c := by omega
        have hne2 : ¬ (⟨j, by omega⟩ : Fin 6) = ⟨c, by omega⟩ := fun z => hne (by simpa using z)
        refine ⟨?_, by simp [hne]⟩
        show (m - (m &&& 2 ^ c)).testBit j = m.testBit j
        rw [e2]
        simp [hne2]
      rw [h3]
      simp
/-- all of n from k on -/
def allb (p : Nat → Bool) : Nat → Nat → Bool
  | 0, _ => true
  | n + 1, k => p k && allb p n (k + 1)
def czn (cn : Nat → Int32) (i : Nat) : Nat := (cn i).toNatClampNeg
theorem czn_eq {cn : Nat → Int32} (h : ∀ j, ∃ z, z < 64 ∧ cn j = nI z) (i : Nat) : cn i = nI (czn cn i) ∧ czn cn i < 64 := by
  obtain ⟨z, hz, e⟩ := h i
  unfold czn
  rw [e, nI_clamp (by omega)]
  exact ⟨rfl, hz⟩
theorem C_all_loop {v : V1} {r : V2} {t S k : Nat} {cn vl : Nat → Int32} (c6 : v 6 = nI t) (ht : t ≤ 8) (r5 : r 5 = cn) (r6 : r 6 = vl) (hcn : ∀ j, ∃ z, z < 64 ∧ cn j = nI z) (hS : S ≤ 108) (hk : k < 64) : ∀ (n x fu : Nat), x + n = t → n < fu → f_X3_allAreSo_2 v r (nI k) (nI S) fu (nI x) = some (allb (fun i => decide (nI (HR S k (czn cn i)) = vl i)) n x) := by
  intro n
  induction n with
  | zero =>
    intro x fu hx hf
    obtain ⟨f', rfl⟩ : ∃ f', fu = f' + 1 := ⟨fu - 1, by omega⟩
    rw [f_X3_allAreSo_2_s, c6, if_pos (nI_le (by omega) (by omega))]
    rfl
  | succ n ih =>
    intro x fu hx hf
    obtain ⟨f', rfl⟩ : ∃ f', fu = f' + 1 := ⟨fu - 1, by omega⟩
    have hi := inR_nI (k := x) (N := 8) (by omega) (by decide)
    obtain ⟨e1, e2⟩ := czn_eq hcn x
    rw [f_X3_allAreSo_2_s, c6, if_neg (nI_ge (by omega) (by omega)), if_pos hi, if_pos hi, nI_clamp (by omega), r5, r6, e1, carried_nat hS hk e2]
    show _ = some (decide (nI (HR S k (czn cn x)) = vl x) && allb _ n (x + 1))
    by_cases h : nI (HR S k (czn cn x)) = vl x
    · rw [if_pos h, nI_1, ih (x + 1) f' (by omega) (by omega)]
      simp [h]
    · rw [if_neg h]
      simp [h]
theorem C_all {v : V1} {r : V2} {t S k : Nat} {cn vl : Nat → Int32} (c6 : v 6 = nI t) (ht : t ≤ 8) (r5 : r 5 = cn) (r6 : r 6 = vl) (hcn : ∀ j, ∃ z, z < 64 ∧ cn j = nI z) (hS : S ≤ 108) (hk : k < 64) : f_X3_allAreSo v r (nI k) (nI S) = some (allb (fun i => decide (nI (HR S k (czn cn i)) = vl i)) t 0) := by
  have h := C_all_loop c6 ht r5 r6 hcn hS hk t 0 80 (by omega) (by omega)
  rw [nI_0] at h
  exact h
theorem M_all_loop {w : V1} {q : V2} {t S k m : Nat} {cn vl : Nat → Int32} (hl : f_X8_laughsOf w q (nI m) = some (nI S)) (w2 : w 2 = nI k) (w5 : w 5 = nI m) (w13 : w 13 = nI t) (ht : t ≤ 8) (q16 : q 16 = cn) (q17 : q 17 = vl) (hcn : ∀ j, ∃ z, z < 64 ∧ cn j = nI z) (hS : S ≤ 108) (hk : k < 64) : ∀ (n x fu : Nat), x + n = t → n < fu → f_X8_areSo_2 w q fu (nI x) = some (allb (fun i => decide (nI (HR S k (czn cn i)) = vl i)) n x) := by
  intro n
  induction n with
  | zero =>
    intro x fu hx hf
    obtain ⟨f', rfl⟩ : ∃ f', fu = f' + 1 := ⟨fu - 1, by omega⟩
    rw [f_X8_areSo_2_s, w13, if_pos (nI_le (by omega) (by omega))]
    rfl
  | succ n ih =>
    intro x fu hx hf
    obtain ⟨f', rfl⟩ : ∃ f', fu = f' + 1 := ⟨fu - 1, by omega⟩
    have hi := inR_nI (k := x) (N := 8) (by omega) (by decide)
    obtain ⟨e1, e2⟩ := czn_eq hcn x
    rw [f_X8_areSo_2_s, w13, if_neg (nI_ge (by omega) (by omega)), if_pos hi, nI_clamp (by omega), q16, q17, e1, heardAt_nat hl w2 w5 hS hk e2, Option.bind_some, if_pos hi]
    show _ = some (decide (nI (HR S k (czn cn x)) = vl x) && allb _ n (x + 1))
    by_cases h : nI (HR S k (czn cn x)) = vl x
    · rw [if_pos h, nI_1, ih (x + 1) f' (by omega) (by omega)]
      simp [h]
    · rw [if_neg h]
      simp [h]
theorem M_all {w : V1} {q : V2} {t S k m : Nat} {cn vl : Nat → Int32} (hl : f_X8_laughsOf w q (nI m) = some (nI S)) (w2 : w 2 = nI k) (w5 : w 5 = nI m) (w13 : w 13 = nI t) (ht : t ≤ 8) (q16 : q 16 = cn) (q17 : q 17 = vl) (hcn : ∀ j, ∃ z, z < 64 ∧ cn j = nI z) (hS : S ≤ 108) (hk : k < 64) : f_X8_areSo w q = some (allb (fun i => decide (nI (HR S k (czn cn i)) = vl i)) t 0) := by
  have h := M_all_loop hl w2 w5 w13 ht q16 q17 hcn hS hk t 0 80 (by omega) (by omega)
  rw [nI_0] at h
  exact h
theorem C_laughIf {v : V1} {r : V2} {c m a s : Nat} {kd gy : Nat → Int32} (c2 : v 2 = nI c) (hc : c ≤ 6) (c5 : v 5 = nI m) (hm : m < 2 ^ c) (r0 : r 0 = kd) (r2 : r 2 = gy) (h1 : ∀ j, ∃ z, z < 3 ∧ kd j = nI z) (h2 : ∀ j, ∃ z, z ≤ 9 ∧ gy j = nI z) (ha : a < c) {K G : Int32} (hs : f_X0_laughOfKind K G = nI s) : f_X1_laughIf v r (nI a) K G = some (nI (LN (fun j => m.testBit j) (fun j => if j = a then s else lan kd gy j) c)) := by
  unfold f_X1_laughIf
  have hm64 := p64 hc hm
  rw [c5, offb ⟨m, hm64⟩ ⟨a, by omega⟩, C_laughOf c2 hc r0 r2, LGS_LN hc (by show m - (m &&& 2 ^ a) < 64; omega) h1 h2, Option.bind_some, hasb hm64 (by omega), hs, ← LN_off hm64 s c hc ha]
  show (if m.testBit a = true then some (nI (LN (fun j => (m - (m &&& 2 ^ a)).testBit j) (lan kd gy) c) + nI s) else some (nI (LN (fun j => (m - (m &&& 2 ^ a)).testBit j) (lan kd gy) c))) = _
  split
  · rw [nI_add]
  · rw [Nat.add_zero]
theorem LN108 {p : Nat → Bool} {f : Nat → Nat} (h : ∀ j, f j ≤ 18) {c : Nat} (hc : c ≤ 6) : LN p f c ≤ 108 := by
  have := LN_le (p := p) h c
  omega
/-- the bits of those numbers below N for which A holds -/
def bitsI (A : Nat → Bool) (k n : Nat) (acc : Int32) : Int32 := iter (fun g a => if A g = true then a ||| (1 : Int32) <<< (nI g &&& 31) else a) k n acc
theorem lan_upd_g {kd gy : Nat → Int32} {a s : Nat} {x : Int32} (hs : f_X0_laughOfKind (kd a) x = nI s) (hs18 : s ≤ 18) (j : Nat) : lan kd (upd gy a x) j = if j = a then s else lan kd gy j := by
  by_cases h : j = a
  · subst h
    unfold lan LA
    rw [pk_us, hs, if_pos rfl, nI_clamp (by omega)]
  · unfold lan LA
    rw [pk_un h, if_neg h]
theorem lan_upd_k {kd gy : Nat → Int32} {a s : Nat} {x : Int32} (hs : f_X0_laughOfKind x (gy a) = nI s) (hs18 : s ≤ 18) (j : Nat) : lan (upd kd a x) gy j = if j = a then s else lan kd gy j := by
  by_cases h : j = a
  · subst h
    unfold lan LA
    rw [pk_us, hs, if_pos rfl, nI_clamp (by omega)]
  · unfold lan LA
    rw [pk_un h, if_neg h]
theorem ite18 {f : Nat → Nat} {a s : Nat} (h : ∀ j, f j ≤ 18) (hs : s ≤ 18) (j : Nat) : (if j = a then s else f j) ≤ 18 := by
  split
  · exact hs
  · exact h j
/-- the laugh of one kind and one gaiety -/
def lk (z g : Nat) : Nat := (f_X0_laughOfKind (nI z) (nI g)).toNatClampNeg
theorem lk_ok {z g : Nat} (hz : z < 3) (hg : g ≤ 9) : f_X0_laughOfKind (nI z) (nI g) = nI (lk z g) ∧ lk z g ≤ 18 := by
  obtain ⟨s, hs, e⟩ := lau_nat z hz g (by omega)
  unfold lk
  rw [e, nI_clamp (by omega)]
  exact ⟨rfl, hs⟩
theorem C_gai_loop {v : V1} {r : V2} {c d k m t a z : Nat} {kd bk gy lo sp cn vl : Nat → Int32} (hG : RG c d k m t kd bk gy lo sp cn vl) (hC : CS c d k m t kd bk gy lo sp cn vl v r) (ha : a < c) (hz : z < 3) : ∀ (n x fu : Nat) (acc : Int32), x + n = 10 → n < fu → f_X7_gaieties_31 v r (nI a) fu (nI z) acc (nI x) = some (bitsI (fun g => allb (fun i => decide (nI (HR (LN (fun j => m.testBit j) (fun j => if j = a then lk z g else lan kd gy j) c) k (czn cn i)) = vl i)) t 0) x n acc) := by
  intro n
  obtain ⟨c2, c3, c4, c5, c6, r0, r1, r2, r3, r4, r5, r6⟩ := hC
  induction n with
  | zero =>
    intro x fu acc hx hf
    obtain ⟨f', rfl⟩ : ∃ f', fu = f' + 1 := ⟨fu - 1, by omega⟩
    have e : x = 10 := by omega
    subst e
    rw [f_X7_gaieties_31_s, if_pos (show (9 : Int32) < nI 10 by decide)]
    rfl
  | succ n ih =>
    intro x fu acc hx hf
    obtain ⟨f', rfl⟩ : ∃ f', fu = f' + 1 := ⟨fu - 1, by omega⟩
    have h9 : ¬ (9 : Int32) < nI x := nI_nlt (a := 9) (b := x) (by omega) (by omega)
    obtain ⟨e1, e2⟩ := lk_ok hz (g := x) (by omega)
    rw [f_X7_gaieties_31_s, if_neg h9, C_laughIf c2 hG.1 c5 hG.2.2.2.2.1 r0 r2 hG.2.2.2.2.2.2.1 hG.2.2.2.2.2.2.2.2.1 ha e1, Option.bind_some, c4, C_all c6 hG.2.2.2.2.2.1 r5 r6 hG.2.2.2.2.2.2.2.2.2.2.2.1 (LN108 (ite18 (fun j => (lan_eq hG.2.2.2.2.2.2.1 hG.2.2.2.2.2.2.2.2.1 j).2) e2) hG.1) hG.2.2.2.1, Option.bind_some]
    show _ = some (iter _ (x + 1) n (if allb (fun i => decide (nI (HR (LN (fun j => m.testBit j) (fun j => if j = a then lk z x else lan kd gy j) c) k (czn cn i)) = vl i)) t 0 = true then acc ||| (1 : Int32) <<< (nI x &&& 31) else acc))
    by_cases h : allb (fun i => decide (nI (HR (LN (fun j => m.testBit j) (fun j => if j = a then lk z x else lan kd gy j) c) k (czn cn i)) = vl i)) t 0 = true
    · rw [if_pos h, if_pos h, nI_1]
      exact ih (x + 1) f' _ (by omega) (by omega)
    · rw [if_neg h, if_neg h, nI_1]
      exact ih (x + 1) f' _ (by omega) (by omega)
theorem C_kin_loop {v : V1} {r : V2} {c d k m t a g : Nat} {kd bk gy lo sp cn vl : Nat → Int32} (hG : RG c d k m t kd bk gy lo sp cn vl) (hC : CS c d k m t kd bk gy lo sp cn vl v r) (ha : a < c) (hg : g ≤ 9) : ∀ (n x fu : Nat) (acc : Int32), x + n = 3 → n < fu → f_X7_kinds_31 v r (nI a) fu (nI g) acc (nI x) = some (bitsI (fun z => allb (fun i => decide (nI (HR (LN (fun j => m.testBit j) (fun j => if j = a then lk z g else lan kd gy j) c) k (czn cn i)) = vl i)) t 0) x n acc) := by
  intro n
  obtain ⟨c2, c3, c4, c5, c6, r0, r1, r2, r3, r4, r5, r6⟩ := hC
  induction n with
  | zero =>
    intro x fu acc hx hf
    obtain ⟨f', rfl⟩ : ∃ f', fu = f' + 1 := ⟨fu - 1, by omega⟩
    have e : x = 3 := by omega
    subst e
    rw [f_X7_kinds_31_s, if_pos (show (3 : Int32) ≤ nI 3 by decide)]
    rfl
  | succ n ih =>
    intro x fu acc hx hf
    obtain ⟨f', rfl⟩ : ∃ f', fu = f' + 1 := ⟨fu - 1, by omega⟩
    have h9 : ¬ (3 : Int32) ≤ nI x := nI_ge (a := x) (b := 3) (by omega) (by omega)
    obtain ⟨e1, e2⟩ := lk_ok (z := x) (by omega) hg
    rw [f_X7_kinds_31_s, if_neg h9, C_laughIf c2 hG.1 c5 hG.2.2.2.2.1 r0 r2 hG.2.2.2.2.2.2.1 hG.2.2.2.2.2.2.2.2.1 ha e1, Option.bind_some, c4, C_all c6 hG.2.2.2.2.2.1 r5 r6 hG.2.2.2.2.2.2.2.2.2.2.2.1 (LN108 (ite18 (fun j => (lan_eq hG.2.2.2.2.2.2.1 hG.2.2.2.2.2.2.2.2.1 j).2) e2) hG.1) hG.2.2.2.1, Option.bind_some]
    show _ = some (iter _ (x + 1) n (if allb (fun i => decide (nI (HR (LN (fun j => m.testBit j) (fun j => if j = a then lk x g else lan kd gy j) c) k (czn cn i)) = vl i)) t 0 = true then acc ||| (1 : Int32) <<< (nI x &&& 31) else acc))
    by_cases h : allb (fun i => decide (nI (HR (LN (fun j => m.testBit j) (fun j => if j = a then lk x g else lan kd gy j) c) k (czn cn i)) = vl i)) t 0 = true
    · rw [if_pos h, if_pos h, nI_1]
      exact ih (x + 1) f' _ (by omega) (by omega)
    · rw [if_neg h, if_neg h, nI_1]
      exact ih (x + 1) f' _ (by omega) (by omega)
