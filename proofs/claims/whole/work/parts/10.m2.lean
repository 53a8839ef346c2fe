/-! company, who is there, what is heard -/
theorem C_leav_loop {v : V1} {r : V2} {c : Nat} {kd gy lo : Nat → Int32} (hv : v 2 = nI c) (hc : c ≤ 6) (h0 : r 0 = kd) (h2 : r 2 = gy) (h3 : r 3 = lo) (x al : Int32) : ∀ (n k fu : Nat) (acc : Int32), k + n = c → n < fu → f_X1_leaversOf_11 v r x fu al acc (nI k) = some (iter (fun j a => if f_X7_has x (nI j) = true then (if lo j ≤ al - LA kd gy j then a else a ||| (1 : Int32) <<< (nI j &&& 31)) else a) k n acc) := by
  intro n
  induction n with
  | zero =>
    intro k fu acc hk hf
    obtain ⟨f', rfl⟩ : ∃ f', fu = f' + 1 := ⟨fu - 1, by omega⟩
    rw [f_X1_leaversOf_11_s, hv, if_pos (nI_le (by omega) (by omega))]
    rfl
  | succ n ih =>
    intro k fu acc hk hf
    obtain ⟨f', rfl⟩ : ∃ f', fu = f' + 1 := ⟨fu - 1, by omega⟩
    have hk6 : k < 6 := by omega
    have hL : f_X0_laugh v r k = LA kd gy k := by unfold f_X0_laugh LA; rw [h0, h2]
    rw [f_X1_leaversOf_11_s, hv, if_neg (nI_ge (by omega) (by omega))]
    show _ = some (iter _ (k + 1) n (if f_X7_has x (nI k) = true then (if lo k ≤ al - LA kd gy k then acc else acc ||| (1 : Int32) <<< (nI k &&& 31)) else acc))
    by_cases h : f_X7_has x (nI k) = true
    · rw [if_pos h, if_pos (inR_nI hk6 (by decide)), if_pos (inR_nI hk6 (by decide)), cl6 hk6, hL, h3, if_pos h]
      by_cases h4 : lo k ≤ al - LA kd gy k
      · rw [if_pos h4, if_pos h4, nI_1, ih (k + 1) f' _ (by omega) (by omega)]
      · rw [if_neg h4, if_neg h4, nI_1, ih (k + 1) f' _ (by omega) (by omega)]
    · rw [if_neg h, if_neg h, nI_1, ih (k + 1) f' _ (by omega) (by omega)]
theorem C_leaversOf {v : V1} {r : V2} {c : Nat} {kd gy lo : Nat → Int32} (hv : v 2 = nI c) (hc : c ≤ 6) (h0 : r 0 = kd) (h2 : r 2 = gy) (h3 : r 3 = lo) (x : Int32) : f_X1_leaversOf v r x = some (LV c kd gy lo x) := by
  unfold f_X1_leaversOf
  rw [C_laughOf hv hc h0 h2, Option.bind_some]
  have h := C_leav_loop hv hc h0 h2 h3 x (LGS c kd gy x) c 0 80 0 (by omega) (by omega)
  rw [nI_0] at h
  exact h
theorem p64 {c m : Nat} (hc : c ≤ 6) (hm : m < 2 ^ c) : m < 64 := Nat.lt_of_lt_of_le hm (Nat.pow_le_pow_right (by decide) hc)
theorem LV_nat {c : Nat} {kd gy lo : Nat → Int32} (hc : c ≤ 6) {m : Nat} (hm : m < 2 ^ c) : LV c kd gy lo (nI m) = nI (bs (fun j => m.testBit j && !decide (lo j ≤ LGS c kd gy (nI m) - LA kd gy j)) c) := by
  unfold LV
  apply iter_bs hc
  intro j a hj
  rw [hasb (p64 hc hm) (by omega)]
  cases m.testBit j
  · simp
  · by_cases h : lo j ≤ LGS c kd gy (nI m) - LA kd gy j <;> simp [h]
theorem CP_nat {c : Nat} {kd gy lo : Nat → Int32} (hc : c ≤ 6) {m : Nat} (hm : m < 2 ^ c) : CP c kd gy lo (nI m) = nI (bs (fun j => m.testBit j && decide (lo j ≤ LGS c kd gy (nI m) - LA kd gy j)) c) := by
  unfold CP
  rw [LV_nat hc hm]
  have hm64 := p64 hc hm
  have hb64 := p64 hc (bs_lt (fun j => m.testBit j && !decide (lo j ≤ LGS c kd gy (nI m) - LA kd gy j)) c)
  have hsub : m &&& bs (fun j => m.testBit j && !decide (lo j ≤ LGS c kd gy (nI m) - LA kd gy j)) c = bs (fun j => m.testBit j && !decide (lo j ≤ LGS c kd gy (nI m) - LA kd gy j)) c := by
    apply Nat.eq_of_testBit_eq
    intro j
    rw [Nat.testBit_and, bs_bit]
    cases m.testBit j <;> simp
  rw [sub6 ⟨m, hm64⟩ ⟨_, hb64⟩ hsub]
  congr 1
  have h1 := bs_split (fun j => m.testBit j) (fun j => decide (lo j ≤ LGS c kd gy (nI m) - LA kd gy j)) c
  rw [bs_self hm] at h1
  show m - bs (fun j => m.testBit j && !decide (lo j ≤ LGS c kd gy (nI m) - LA kd gy j)) c = _
  omega
theorem C_comp_loop {v : V1} {r : V2} {c : Nat} {kd gy lo : Nat → Int32} (hv : v 2 = nI c) (hc : c ≤ 6) (h0 : r 0 = kd) (h2 : r 2 = gy) (h3 : r 3 = lo) (x : Int32) : ∀ (n k fu m : Nat), m < 2 ^ c → k + n = 6 → n < fu → f_X1_companyOf_4 v r x fu (nI m) (nI k) = some (pw (CP c kd gy lo) n (nI m)) := by
  intro n
  induction n with
  | zero =>
    intro k fu m hm hk hf
    obtain ⟨f', rfl⟩ : ∃ f', fu = f' + 1 := ⟨fu - 1, by omega⟩
    have e : k = 6 := by omega
    subst e
    rw [f_X1_companyOf_4_s]
    rfl
  | succ n ih =>
    intro k fu m hm hk hf
    obtain ⟨f', rfl⟩ : ∃ f', fu = f' + 1 := ⟨fu - 1, by omega⟩
    have h6 : ¬ (6 : Int32) ≤ nI k := nI_ge (b := 6) (by omega) (by omega)
    rw [f_X1_companyOf_4_s, if_neg h6, C_leaversOf hv hc h0 h2 h3]
    show (if LV c kd gy lo (nI m) = 0 then some (nI m) else f_X1_companyOf_4 v r x f' (nI m &&& (LV c kd gy lo (nI m) ^^^ (-1))) (nI k + 1)) = _
    by_cases hz : LV c kd gy lo (nI m) = 0
    · rw [if_pos hz]
      have hfix : CP c kd gy lo (nI m) = nI m := by
        unfold CP
        rw [hz]
        exact sub6 ⟨m, p64 hc hm⟩ ⟨0, by decide⟩ (Nat.and_zero m)
      rw [pw_fix hfix]
    · rw [if_neg hz]
      have e : nI m &&& (LV c kd gy lo (nI m) ^^^ (-1)) = nI (bs (fun j => m.testBit j && decide (lo j ≤ LGS c kd gy (nI m) - LA kd gy j)) c) := CP_nat hc hm
      rw [e, nI_1, ih (k + 1) f' _ (bs_lt _ c) (by omega) (by omega), ← CP_nat hc hm]
      rfl
theorem C_companyOf {v : V1} {r : V2} {c : Nat} {kd gy lo : Nat → Int32} (hv : v 2 = nI c) (hc : c ≤ 6) (h0 : r 0 = kd) (h2 : r 2 = gy) (h3 : r 3 = lo) {m : Nat} (hm : m < 2 ^ c) : f_X1_companyOf v r (nI m) = some (CO c kd gy lo (nI m)) := C_comp_loop hv hc h0 h2 h3 (nI m) 6 0 80 m hm (by omega) (by omega)
theorem M_stay_loop {w : V1} {q : V2} {c : Nat} {kd gy lo : Nat → Int32} (hw : w 4 = nI c) (hc : c ≤ 6) (h4 : q 4 = kd) (h6 : q 6 = gy) (h7 : q 7 = lo) (h1 : ∀ j, ∃ z, z < 3 ∧ kd j = nI z) (h2 : ∀ j, ∃ z, z ≤ 9 ∧ gy j = nI z) (K : Int32 → Int32 → Option Int32) (a1 x x3 al : Int32) : ∀ (n k fu : Nat) (acc : Int32), k + n = c → n < fu → f_X8_companyOf_23 K w q a1 fu x x3 al acc (nI k) = K (iter (fun j a => if f_X7_has x (nI j) = true then (if al - LA kd gy j < lo j then a else a ||| (1 : Int32) <<< (nI j &&& 31)) else a) k n acc) (x3 + 1) := by
  intro n
  induction n with
  | zero =>
    intro k fu acc hk hf
    obtain ⟨f', rfl⟩ : ∃ f', fu = f' + 1 := ⟨fu - 1, by omega⟩
    rw [f_X8_companyOf_23_s, hw, if_pos (nI_le (by omega) (by omega))]
    rfl
  | succ n ih =>
    intro k fu acc hk hf
    obtain ⟨f', rfl⟩ : ∃ f', fu = f' + 1 := ⟨fu - 1, by omega⟩
    have hk6 : k < 6 := by omega
    rw [f_X8_companyOf_23_s, hw, if_neg (nI_ge (by omega) (by omega)), isOf8]
    show _ = K (iter _ (k + 1) n (if f_X7_has x (nI k) = true then (if al - LA kd gy k < lo k then acc else acc ||| (1 : Int32) <<< (nI k &&& 31)) else acc)) (x3 + 1)
    by_cases h : f_X7_has x (nI k) = true
    · rw [if_pos h, M_laughOf h4 h6 h1 h2 hk6, if_pos h]
      show (if inR (nI k) 6 = true then _ else none) = _
      rw [if_pos (inR_nI hk6 (by decide)), cl6 hk6, h7]
      by_cases h5 : al - LA kd gy k < lo k
      · rw [if_pos h5, if_pos h5, or0, nI_1, ih (k + 1) f' _ (by omega) (by omega)]
      · rw [if_neg h5, if_neg h5, nI_1, ih (k + 1) f' _ (by omega) (by omega)]
    · rw [if_neg h, if_neg h, or0, nI_1, ih (k + 1) f' _ (by omega) (by omega)]
theorem i32_lt_iff {a b : Int32} : a < b ↔ ¬ b ≤ a := by
  rw [Int32.lt_iff_toInt_lt, Int32.le_iff_toInt_le]
  omega
theorem stay_nat {c : Nat} {kd gy lo : Nat → Int32} (hc : c ≤ 6) {m : Nat} (hm : m < 2 ^ c) : iter (fun j a => if f_X7_has (nI m) (nI j) = true then (if LGS c kd gy (nI m) - LA kd gy j < lo j then a else a ||| (1 : Int32) <<< (nI j &&& 31)) else a) 0 c 0 = CP c kd gy lo (nI m) := by
  rw [CP_nat hc hm]
  apply iter_bs hc
  intro j a hj
  rw [hasb (p64 hc hm) (by omega)]
  cases m.testBit j
  · simp
  · by_cases h : lo j ≤ LGS c kd gy (nI m) - LA kd gy j
    · simp [h, i32_lt_iff]
    · simp [h, i32_lt_iff]
theorem M_comp_loop {w : V1} {q : V2} {c : Nat} {kd gy lo : Nat → Int32} (hw : w 4 = nI c) (hc : c ≤ 6) (h4 : q 4 = kd) (h6 : q 6 = gy) (h7 : q 7 = lo) (h1 : ∀ j, ∃ z, z < 3 ∧ kd j = nI z) (h2 : ∀ j, ∃ z, z ≤ 9 ∧ gy j = nI z) (x : Int32) : ∀ (n k fu m : Nat), m < 2 ^ c → k + n = 6 → n < fu → f_X8_companyOf_4 w q x fu (nI m) (nI k) = some (pw (CP c kd gy lo) n (nI m)) := by
  intro n
  induction n with
  | zero =>
    intro k fu m hm hk hf
    obtain ⟨f', rfl⟩ : ∃ f', fu = f' + 1 := ⟨fu - 1, by omega⟩
    have e : k = 6 := by omega
    subst e
    rw [f_X8_companyOf_4_s]
    rfl
  | succ n ih =>
    intro k fu m hm hk hf
    obtain ⟨f', rfl⟩ : ∃ f', fu = f' + 1 := ⟨fu - 1, by omega⟩
    have h6' : ¬ (6 : Int32) ≤ nI k := nI_ge (b := 6) (by omega) (by omega)
    rw [f_X8_companyOf_4_s, if_neg h6', M_laughsOf hw hc h4 h6 h1 h2]
    rw [Option.bind_some]
    have h := M_stay_loop hw hc h4 h6 h7 h1 h2 (fun z0 z1 => f_X8_companyOf_4 w q x f' z0 z1) x (nI m) (nI k) (LGS c kd gy (nI m)) c 0 80 0 (by omega) (by omega)
    rw [nI_0] at h
    rw [h, stay_nat hc hm]
    show f_X8_companyOf_4 w q x f' (CP c kd gy lo (nI m)) (nI k + 1) = some (pw (CP c kd gy lo) n (CP c kd gy lo (nI m)))
    rw [CP_nat hc hm, nI_1]
    exact ih (k + 1) f' _ (bs_lt _ c) (by omega) (by omega)
theorem M_companyOf {w : V1} {q : V2} {c : Nat} {kd gy lo : Nat → Int32} (hw : w 4 = nI c) (hc : c ≤ 6) (h4 : q 4 = kd) (h6 : q 6 = gy) (h7 : q 7 = lo) (h1 : ∀ j, ∃ z, z < 3 ∧ kd j = nI z) (h2 : ∀ j, ∃ z, z ≤ 9 ∧ gy j = nI z) {m : Nat} (hm : m < 2 ^ c) : f_X8_companyOf w q (nI m) = some (CO c kd gy lo (nI m)) := M_comp_loop hw hc h4 h6 h7 h1 h2 (nI m) 6 0 80 m hm (by omega) (by omega)
theorem pwCP_nat {c : Nat} {kd gy lo : Nat → Int32} (hc : c ≤ 6) : ∀ (n m : Nat), m < 2 ^ c → ∃ m', m' < 2 ^ c ∧ pw (CP c kd gy lo) n (nI m) = nI m'
  | 0, m, hm => ⟨m, hm, rfl⟩
  | n + 1, m, hm => by
    show ∃ m', m' < 2 ^ c ∧ pw (CP c kd gy lo) n (CP c kd gy lo (nI m)) = nI m'
    rw [CP_nat hc hm]
    exact pwCP_nat hc n _ (bs_lt _ c)
theorem CO_nat {c : Nat} {kd gy lo : Nat → Int32} (hc : c ≤ 6) {m : Nat} (hm : m < 2 ^ c) : ∃ m', m' < 2 ^ c ∧ CO c kd gy lo (nI m) = nI m' := pwCP_nat hc 6 m hm
theorem set_cases {v w : V1} {c : Nat} (hv : v 2 = nI c) (hw : w 4 = nI c) (hc : c ≤ 6) (r q : V2) (a : Int32) : (f_X1_isSet v r a = false ∧ f_X8_isSet w q a = false) ∨ ∃ j, j < 2 ^ c ∧ a = nI j ∧ f_X1_isSet v r a = true ∧ f_X8_isSet w q a = true := by
  unfold f_X1_isSet f_X8_isSet
  have hs : ∀ c, c ≤ 6 → (1 : Int32) <<< (nI c &&& 31) = nI (2 ^ c) := by decide
  have h64 : 2 ^ c ≤ 2 ^ 6 := Nat.pow_le_pow_right (by decide) hc
  rw [hv, hw, hs c hc]
  rcases pk_ix a (n := 2 ^ c) (by omega) with h | h | ⟨j, hj, rfl⟩
  · left; simp [h]
  · left; simp [h]
  · right
    refine ⟨j, hj, rfl, ?_⟩
    have h1 : ¬ nI j < 0 := nI_pos (by omega)
    have h2 : ¬ nI (2 ^ c) ≤ nI j := nI_ge hj (by omega)
    simp [h1, h2]
theorem op8 : Op8 Rel := by
  rintro v r w q z0 ⟨ht, hf, hS, c, d, k, m, t, kd, bk, gy, lo, sp, cn, vl, hG, hC, hM⟩
  unfold f_X7_company f_X8_company
  rcases stands_cases hC.1 hM.1 hG.1 r with ⟨-, h1, h2⟩ | ⟨-, h1, h2⟩
  · exact ⟨-3, by simp [h1], by simp [h2]⟩
  · rcases set_cases hC.1 hM.1 hG.1 r q z0 with ⟨h3, h4⟩ | ⟨j, hj, rfl, h3, h4⟩
    · exact ⟨-2, by simp [h1, h3], by simp [h2, h4]⟩
    · refine ⟨CO c kd gy lo (nI j), ?_, ?_⟩
      · rw [if_pos h1, if_pos h3, C_companyOf hC.1 hG.1 hC.2.2.2.2.2.1 hC.2.2.2.2.2.2.2.1 hC.2.2.2.2.2.2.2.2.1 hj]
        rfl
      · rw [if_neg h2, if_pos h4, M_companyOf hM.1 hG.1 hM.2.2.2.2.2.1 hM.2.2.2.2.2.2.2.1 hM.2.2.2.2.2.2.2.2.1 hG.2.2.2.2.2.2.1 hG.2.2.2.2.2.2.2.2.1 hj]
        rfl
theorem op11 : Op11 Rel := by
  rintro v r w q ⟨ht, hf, hS, c, d, k, m, t, kd, bk, gy, lo, sp, cn, vl, hG, hC, hM⟩
  unfold f_X7_laughter f_X8_laughter
  rcases stands_cases hC.1 hM.1 hG.1 r with ⟨-, h1, h2⟩ | ⟨-, h1, h2⟩
  · exact ⟨-3, by simp [h1], by simp [h2]⟩
  · refine ⟨LGS c kd gy (nI m), ?_, ?_⟩
    · rw [if_pos h1, hC.2.2.2.1, C_laughOf hC.1 hG.1 hC.2.2.2.2.2.1 hC.2.2.2.2.2.2.2.1]
      rfl
    · rw [if_neg h2, hM.2.2.2.1, M_laughsOf hM.1 hG.1 hM.2.2.2.2.2.1 hM.2.2.2.2.2.2.2.1 hG.2.2.2.2.2.2.1 hG.2.2.2.2.2.2.2.2.1]
      rfl
