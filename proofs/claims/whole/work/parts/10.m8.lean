/-! whom to call for; odds -/
theorem iter_add {α : Type} (f : Nat → α → α) : ∀ (a b k : Nat) (x : α), iter f k (a + b) x = iter f (k + a) b (iter f k a x)
  | 0, b, k, x => by rw [Nat.zero_add]; rfl
  | a + 1, b, k, x => by
    have h := iter_add f a b (k + 1) (f k x)
    rw [show a + 1 + b = (a + b) + 1 by omega, show k + (a + 1) = k + 1 + a by omega]
    exact h
theorem iter_id {α : Type} {f : Nat → α → α} : ∀ (n k : Nat) (x : α), (∀ j a, k ≤ j → j < k + n → f j a = a) → iter f k n x = x
  | 0, _, _, _ => rfl
  | n + 1, k, x, h => by
    show iter f (k + 1) n (f k x) = x
    rw [h k x (Nat.le_refl k) (by omega)]
    exact iter_id n (k + 1) x (fun j a h1 h2 => h j a (by omega) (by omega))
theorem andn : ∀ m k : Fin 64, nI m &&& (nI k ^^^ (-1)) = nI (m.1 - (m.1 &&& k.1)) := by decide +kernel
theorem andn' {m k : Nat} (hm : m < 64) (hk : k < 64) : nI m &&& (nI k ^^^ (-1)) = nI (m - (m &&& k)) := andn ⟨m, hm⟩ ⟨k, hk⟩
theorem alw {k m : Nat} (hk : k < 64) (hm : m < 64) : nI k &&& (nI m ^^^ (-1)) = 0 ↔ k &&& m = k := by
  rw [andn' hk hm]
  have h1 : k &&& m ≤ k := Nat.and_le_left
  constructor
  · intro h
    have h2 := (nI_eq (a := k - (k &&& m)) (b := 0) (by omega) (by decide)).mp h
    omega
  · intro h
    rw [h, Nat.sub_self]; rfl
def pcn (k : Nat) : Nat := (f_J6_bitCount_0f7a4 (nI k)).toNatClampNeg
theorem pcn_ok : ∀ k : Fin 64, f_J6_bitCount_0f7a4 (nI k) = nI (pcn k) ∧ pcn k ≤ 6 := by decide +kernel
theorem pcn_eq {k : Nat} (hk : k < 64) : f_J6_bitCount_0f7a4 (nI k) = nI (pcn k) := (pcn_ok ⟨k, hk⟩).1
theorem pcn_le {k : Nat} (hk : k < 64) : pcn k ≤ 6 := (pcn_ok ⟨k, hk⟩).2
/-- the best set so far -/
def encO : Option Nat → Int32
  | none => -9
  | some b => nI b
def feO : Option Nat → Nat
  | none => 7
  | some b => pcn b
def stepF (al G : Nat → Bool) (k : Nat) (st : Option Nat) : Option Nat := if (al k && decide (pcn k < feO st) && G k) = true then some k else st
theorem stepF_lt {al G : Nat → Bool} {k : Nat} {st : Option Nat} (hk : k < 64) (h : ∀ b, st = some b → b < 64) : ∀ b, stepF al G k st = some b → b < 64 := by
  intro b hb
  unfold stepF at hb
  split at hb
  · cases hb; exact hk
  · exact h b hb
theorem C_few_loop {v : V1} {r : V2} {c m cb : Nat} {kd gy lo : Nat → Int32} (hv : v 2 = nI c) (hc : c ≤ 6) (h0 : r 0 = kd) (h2 : r 2 = gy) (h3 : r 3 = lo) (h5 : v 5 = nI m) (hm : m < 2 ^ c) (hcb : cb < 64) (a1 : Int32) : ∀ (n k fu : Nat) (st : Option Nat), (∀ b, st = some b → b < 64) → k + n = cb + 1 → n < fu → f_X1_fewestCalls_10 v r a1 (nI cb) fu (encO st) (nI (feO st)) (nI k) = some (encO (iter (stepF (fun k => decide (k &&& cb = k)) (fun k => decide (CO c kd gy lo (nI (m - (m &&& k))) &&& a1 = 0))) k n st)) := by
  intro n
  induction n with
  | zero =>
    intro k fu st hst hk hf
    obtain ⟨f', rfl⟩ : ∃ f', fu = f' + 1 := ⟨fu - 1, by omega⟩
    rw [f_X1_fewestCalls_10_s, if_pos (nI_lt (by omega) (by omega))]
    rfl
  | succ n ih =>
    intro k fu st hst hk hf
    obtain ⟨f', rfl⟩ : ∃ f', fu = f' + 1 := ⟨fu - 1, by omega⟩
    have hk64 : k < 64 := by omega
    have hm64 := p64 hc hm
    have hfe : feO st < 2 ^ 31 := by
      cases st with
      | none => show 7 < _; omega
      | some b => show pcn b < _; have := pcn_le (hst b rfl); omega
    have hkp := pcn_le hk64
    rw [f_X1_fewestCalls_10_s, if_neg (nI_nlt (by omega) (by omega)), pcn_eq hk64]
    show _ = some (encO (iter _ (k + 1) n (stepF _ _ k st)))
    by_cases g1 : k &&& cb = k
    · rw [if_pos ((alw hk64 hcb).mpr g1)]
      by_cases g2 : feO st ≤ pcn k
      · rw [if_pos (nI_le g2 (by omega)), nI_1, ih (k + 1) f' st hst (by omega) (by omega)]
        have e : stepF (fun k => decide (k &&& cb = k)) (fun k => decide (CO c kd gy lo (nI (m - (m &&& k))) &&& a1 = 0)) k st = st := by
          unfold stepF
          have h6 : ¬ pcn k < feO st := by omega
          simp [h6]
        rw [e]
      · rw [if_neg (fun z => g2 ((nI_leI hfe (by omega)).mp z)), h5, andn' hm64 hk64, C_companyOf hv hc h0 h2 h3 (Nat.lt_of_le_of_lt (Nat.sub_le _ _) hm), Option.bind_some]
        have h6 : pcn k < feO st := by omega
        by_cases g3 : CO c kd gy lo (nI (m - (m &&& k))) &&& a1 = 0
        · have e : stepF (fun k => decide (k &&& cb = k)) (fun k => decide (CO c kd gy lo (nI (m - (m &&& k))) &&& a1 = 0)) k st = some k := by
            unfold stepF
            simp [g1, g3, h6]
          rw [if_pos g3, e, nI_1]
          exact ih (k + 1) f' (some k) (fun b hb => by cases hb; exact hk64) (by omega) (by omega)
        · have e : stepF (fun k => decide (k &&& cb = k)) (fun k => decide (CO c kd gy lo (nI (m - (m &&& k))) &&& a1 = 0)) k st = st := by
            unfold stepF
            simp [g3]
          rw [if_neg g3, e, nI_1, ih (k + 1) f' st hst (by omega) (by omega)]
    · have e : stepF (fun k => decide (k &&& cb = k)) (fun k => decide (CO c kd gy lo (nI (m - (m &&& k))) &&& a1 = 0)) k st = st := by
        unfold stepF
        simp [g1]
      rw [if_neg (fun z => g1 ((alw hk64 hcb).mp z)), e, nI_1, ih (k + 1) f' st hst (by omega) (by omega)]
theorem size_nat {k : Nat} (hk : k < 64) : f_X8_size (nI k) = some (nI (pcn k)) := by
  rw [bc8 ⟨k, hk⟩, pcn_eq hk]
theorem M_few_loop {w : V1} {q : V2} {c m : Nat} {kd gy lo : Nat → Int32} (hw : w 4 = nI c) (hc : c ≤ 6) (h4 : q 4 = kd) (h6 : q 6 = gy) (h7 : q 7 = lo) (h1 : ∀ j, ∃ z, z < 3 ∧ kd j = nI z) (h2 : ∀ j, ∃ z, z ≤ 9 ∧ gy j = nI z) (h5 : w 5 = nI m) (hm : m < 2 ^ c) (a1 nt : Int32) : ∀ (n k fu : Nat) (st : Option Nat), (∀ b, st = some b → b < 64) → k + n = 2 ^ c → n < fu → f_X8_fewestFor_6 w q a1 nt fu (encO st) (nI k) = some (encO (iter (stepF (fun k => decide (k &&& m = k) && decide (nI k &&& nt = 0)) (fun k => decide (CO c kd gy lo (nI (m - (m &&& k))) &&& a1 = 0))) k n st)) := by
  intro n
  have hs : ∀ c, c ≤ 6 → (1 : Int32) <<< (nI c &&& 31) = nI (2 ^ c) := by decide
  have h64 : 2 ^ c ≤ 2 ^ 6 := Nat.pow_le_pow_right (by decide) hc
  induction n with
  | zero =>
    intro k fu st hst hk hf
    obtain ⟨f', rfl⟩ : ∃ f', fu = f' + 1 := ⟨fu - 1, by omega⟩
    rw [f_X8_fewestFor_6_s, hw, hs c hc, if_pos (nI_le (by omega) (by omega))]
    rfl
  | succ n ih =>
    intro k fu st hst hk hf
    obtain ⟨f', rfl⟩ : ∃ f', fu = f' + 1 := ⟨fu - 1, by omega⟩
    have hk64 : k < 64 := by omega
    have hm64 := p64 hc hm
    have hkp := pcn_le hk64
    rw [f_X8_fewestFor_6_s, hw, hs c hc, if_neg (nI_ge (by omega) (by omega)), h5]
    show _ = some (encO (iter _ (k + 1) n (stepF _ _ k st)))
    by_cases g1 : k &&& m = k
    · rw [if_pos ((alw hk64 hm64).mpr g1)]
      by_cases gn : nI k &&& nt = 0
      · rw [if_pos gn, andn' hm64 hk64, M_companyOf hw hc h4 h6 h7 h1 h2 (Nat.lt_of_le_of_lt (Nat.sub_le _ _) hm), Option.bind_some]
        cases st with
        | none =>
          rw [if_pos (show encO none = -9 from rfl)]
          have h8 : pcn k < feO none := by show pcn k < 7; omega
          by_cases g3 : CO c kd gy lo (nI (m - (m &&& k))) &&& a1 = 0
          · have e : stepF (fun k => decide (k &&& m = k) && decide (nI k &&& nt = 0)) (fun k => decide (CO c kd gy lo (nI (m - (m &&& k))) &&& a1 = 0)) k none = some k := by
              unfold stepF
              simp [g1, g3, gn, h8]
            rw [if_pos g3, e, nI_1]
            exact ih (k + 1) f' (some k) (fun b hb => by cases hb; exact hk64) (by omega) (by omega)
          · have e : stepF (fun k => decide (k &&& m = k) && decide (nI k &&& nt = 0)) (fun k => decide (CO c kd gy lo (nI (m - (m &&& k))) &&& a1 = 0)) k none = none := by
              unfold stepF
              simp [g3]
            rw [if_neg g3, e, nI_1, ih (k + 1) f' none hst (by omega) (by omega)]
        | some b =>
          have hb64 := hst b rfl
          have hbp := pcn_le hb64
          rw [if_neg (show ¬ encO (some b) = -9 from nIm9 (by omega)), size_nat hk64, Option.bind_some, show f_X8_size (encO (some b)) = some (nI (pcn b)) from size_nat hb64, Option.bind_some]
          by_cases g2 : pcn b ≤ pcn k
          · have e : stepF (fun k => decide (k &&& m = k) && decide (nI k &&& nt = 0)) (fun k => decide (CO c kd gy lo (nI (m - (m &&& k))) &&& a1 = 0)) k (some b) = some b := by
              unfold stepF
              have h8 : ¬ pcn k < feO (some b) := by show ¬ pcn k < pcn b; omega
              simp [h8]
            rw [if_pos (nI_le g2 (by omega)), e, nI_1, ih (k + 1) f' (some b) hst (by omega) (by omega)]
          · have h8 : pcn k < feO (some b) := by show pcn k < pcn b; omega
            rw [if_neg (nI_ge (by omega) (by omega))]
            by_cases g3 : CO c kd gy lo (nI (m - (m &&& k))) &&& a1 = 0
            · have e : stepF (fun k => decide (k &&& m = k) && decide (nI k &&& nt = 0)) (fun k => decide (CO c kd gy lo (nI (m - (m &&& k))) &&& a1 = 0)) k (some b) = some k := by
                unfold stepF
                simp [g1, g3, gn, h8]
              rw [if_pos g3, e, nI_1]
              exact ih (k + 1) f' (some k) (fun b hb => by cases hb; exact hk64) (by omega) (by omega)
            · have e : stepF (fun k => decide (k &&& m = k) && decide (nI k &&& nt = 0)) (fun k => decide (CO c kd gy lo (nI (m - (m &&& k))) &&& a1 = 0)) k (some b) = some b := by
                unfold stepF
                simp [g3]
              rw [if_neg g3, e, nI_1, ih (k + 1) f' (some b) hst (by omega) (by omega)]
      · have e : stepF (fun k => decide (k &&& m = k) && decide (nI k &&& nt = 0)) (fun k => decide (CO c kd gy lo (nI (m - (m &&& k))) &&& a1 = 0)) k st = st := by
          unfold stepF
          simp [gn]
        rw [if_neg gn, e, nI_1, ih (k + 1) f' st hst (by omega) (by omega)]
    · have e : stepF (fun k => decide (k &&& m = k) && decide (nI k &&& nt = 0)) (fun k => decide (CO c kd gy lo (nI (m - (m &&& k))) &&& a1 = 0)) k st = st := by
        unfold stepF
        simp [g1]
      rw [if_neg (fun z => g1 ((alw hk64 hm64).mp z)), e, nI_1, ih (k + 1) f' st hst (by omega) (by omega)]
/-- the two searches find the same -/
theorem few_eq {al al' G : Nat → Bool} {cb N : Nat} (hN : cb < N) (h1 : ∀ k, k ≤ cb → al k = al' k) (h2 : ∀ k, cb < k → k < N → al' k = false) : iter (stepF al G) 0 (cb + 1) none = iter (stepF al' G) 0 N none := by
  obtain ⟨N', rfl⟩ : ∃ N', N = (cb + 1) + N' := ⟨N - (cb + 1), by omega⟩
  rw [iter_add (stepF al' G) (cb + 1) N' 0 none, iter_id N' (0 + (cb + 1))]
  · apply iter_congr
    intro j a _ hj
    unfold stepF
    rw [h1 j (by omega)]
  · intro j a h3 h4
    unfold stepF
    rw [h2 j (by omega) (by omega)]
    simp
theorem and_sub_le {k m : Nat} (h : k &&& m = k) : k ≤ m := by
  rw [← h]
  exact Nat.and_le_right
theorem op15 : Op15 Rel := by
  rintro v r w q z0 ⟨ht, hf, hS, c, d, k, m, t, kd, bk, gy, lo, sp, cn, vl, hG, ⟨c2, c3, c4, c5, c6, r0, r1, r2, r3, r4, r5, r6⟩, ⟨w4, w3, w2, w5, w13, q4, q5, q6, q7, q3, q16, q17⟩⟩
  unfold f_X7_fetch f_X8_fetch
  have hm := hG.2.2.2.2.1
  have hm64 := p64 hG.1 hm
  rcases stands_cases c2 w4 hG.1 r with ⟨-, h1, h2⟩ | ⟨-, h1, h2⟩
  · exact ⟨-3, by simp [h1], by simp [h2]⟩
  · rcases set_cases c2 w4 hG.1 r q z0 with ⟨h3, h4⟩ | ⟨j, hj, rfl, h3, h4⟩
    · exact ⟨-2, by simp [h1, h3], by simp [h2, h4]⟩
    · rw [if_pos h1, if_pos h3, if_neg h2, if_pos h4, c5, w5]
      by_cases h5 : nI j &&& (nI m ^^^ (-1)) = 0
      · rw [if_pos h5, if_pos h5]
        unfold f_X1_fewestCalls f_X8_fewestFor
        have e1 := C_few_loop c2 hG.1 r0 r2 r3 c5 hm hm64 (nI j) (m + 1) 0 80 none (fun b hb => by cases hb) (by omega) (by omega)
        have e2 := M_few_loop w4 hG.1 q4 q6 q7 hG.2.2.2.2.2.2.1 hG.2.2.2.2.2.2.2.2.1 w5 hm (nI j) 0 (2 ^ c) 0 80 none (fun b hb => by cases hb) (by omega) (by have : 2 ^ c ≤ 2 ^ 6 := Nat.pow_le_pow_right (by decide) hG.1; omega)
        have e3 := few_eq (al := fun k => decide (k &&& m = k)) (al' := fun k => decide (k &&& m = k) && decide (nI k &&& (0 : Int32) = 0)) (G := fun k => decide (CO c kd gy lo (nI (m - (m &&& k))) &&& nI j = 0)) hm (fun k _ => by simp [Int32.and_zero]) (fun k hk _ => by
          have : ¬ k &&& m = k := fun z => by have := and_sub_le z; omega
          simp [this])
        rw [nI_0] at e1 e2
        rw [e3] at e1
        obtain ⟨y, y1, y2⟩ : ∃ y, f_X1_fewestCalls_10 v r (nI j) (nI m) 80 (-9) 7 0 = some y ∧ f_X8_fewestFor_6 w q (nI j) 0 80 (-9) 0 = some y := ⟨_, e1, e2⟩
        rw [y1, y2]
        exact ⟨y, rfl, rfl⟩
      · rw [if_neg h5, if_neg h5]
        exact ⟨_, rfl, rfl⟩
theorem lure_al : ∀ m : Fin 64, ∀ j : Fin 6, ∀ k : Fin 64, (k.1 &&& (m.1 - (m.1 &&& 2 ^ j.1)) = k.1) ↔ (k.1 &&& m.1 = k.1 ∧ k.1 &&& 2 ^ j.1 = 0) := by decide +kernel
theorem and2j : ∀ k : Fin 64, ∀ j : Fin 6, nI k &&& (1 : Int32) <<< (nI j &&& 31) = nI (k.1 &&& 2 ^ j.1) := by decide +kernel
theorem op16 : Op16 Rel := by
  rintro v r w q z0 ⟨ht, hf, hS, c, d, k, m, t, kd, bk, gy, lo, sp, cn, vl, hG, ⟨c2, c3, c4, c5, c6, r0, r1, r2, r3, r4, r5, r6⟩, ⟨w4, w3, w2, w5, w13, q4, q5, q6, q7, q3, q16, q17⟩⟩
  unfold f_X7_lure f_X8_lure
  have hm := hG.2.2.2.2.1
  have hm64 := p64 hG.1 hm
  rcases art_cases c2 w4 hG.1 r q z0 with ⟨h1, h2⟩ | ⟨j, hj, rfl, h1, h2⟩
  · exact ⟨-1, by simp [h1], by simp [h2]⟩
  · have hj6 : j < 6 := by have := hG.1; omega
    rw [if_pos h1, if_pos h2, isOf8, c5, w5]
    cases hb : f_X7_has (nI m) (nI j) with
    | false => exact ⟨-3, rfl, rfl⟩
    | true =>
      rw [if_pos rfl, if_pos rfl, offb ⟨m, hm64⟩ ⟨j, hj6⟩]
      unfold f_X1_fewestCalls f_X8_fewestFor
      have hcb : m - (m &&& 2 ^ j) < 2 ^ c := Nat.lt_of_le_of_lt (Nat.sub_le _ _) hm
      have e1 := C_few_loop c2 hG.1 r0 r2 r3 c5 hm (p64 hG.1 hcb) ((1 : Int32) <<< (nI j &&& 31)) (m - (m &&& 2 ^ j) + 1) 0 80 none (fun b hb => by cases hb) (by omega) (by have := p64 hG.1 hcb; omega)
      have e2 := M_few_loop w4 hG.1 q4 q6 q7 hG.2.2.2.2.2.2.1 hG.2.2.2.2.2.2.2.2.1 w5 hm ((1 : Int32) <<< (nI j &&& 31)) ((1 : Int32) <<< (nI j &&& 31)) (2 ^ c) 0 80 none (fun b hb => by cases hb) (by omega) (by have : 2 ^ c ≤ 2 ^ 6 := Nat.pow_le_pow_right (by decide) hG.1; omega)
      have hal : ∀ k, k < 64 → decide (k &&& (m - (m &&& 2 ^ j)) = k) = (decide (k &&& m = k) && decide (nI k &&& (1 : Int32) <<< (nI j &&& 31) = 0)) := by
        intro k hk
        have h8 := lure_al ⟨m, hm64⟩ ⟨j, hj6⟩ ⟨k, hk⟩
        have h9 : nI k &&& (1 : Int32) <<< (nI j &&& 31) = 0 ↔ k &&& 2 ^ j = 0 := by
          rw [and2j ⟨k, hk⟩ ⟨j, hj6⟩]
          have hle : k &&& 2 ^ j ≤ k := Nat.and_le_left
          exact nI_eq (a := k &&& 2 ^ j) (b := 0) (by omega) (by decide)
        by_cases a1 : k &&& m = k <;> by_cases a2 : k &&& 2 ^ j = 0 <;> simp [a1, a2, h9, h8]
      have e3 := few_eq (al := fun k => decide (k &&& (m - (m &&& 2 ^ j)) = k)) (al' := fun k => decide (k &&& m = k) && decide (nI k &&& (1 : Int32) <<< (nI j &&& 31) = 0)) (G := fun k => decide (CO c kd gy lo (nI (m - (m &&& k))) &&& (1 : Int32) <<< (nI j &&& 31) = 0)) hcb (fun k hk => hal k (by have := p64 hG.1 hcb; omega)) (fun k hk hk2 => by
        rw [← hal k (p64 hG.1 hk2)]
        have : ¬ k &&& (m - (m &&& 2 ^ j)) = k := fun z => by have := and_sub_le z; omega
        simp [this])
      rw [nI_0] at e1 e2
      rw [e3] at e1
      obtain ⟨y, y1, y2⟩ : ∃ y, f_X1_fewestCalls_10 v r ((1 : Int32) <<< (nI j &&& 31)) (nI (m - (m &&& 2 ^ j))) 80 (-9) 7 0 = some y ∧ f_X8_fewestFor_6 w q ((1 : Int32) <<< (nI j &&& 31)) ((1 : Int32) <<< (nI j &&& 31)) 80 (-9) 0 = some y := ⟨_, e1, e2⟩
      rw [y1, y2]
      exact ⟨y, rfl, rfl⟩
