/-! the year -/
theorem yx {a x : Nat} : nI a + 2 * nI x = nI (a + 2 * x) := by
  show nI a + nI 2 * nI x = _
  rw [pk_mul, nI_add]
def YE (P X a5 : Int32) (w : V1) (q : V2) : Option (Int32 × ST) := (f_X8_goYear w q X P).bind (fun y13 => (f_X8_tellYear y13.2.1 y13.2.2 a5).bind (fun y14 => (if a5 = 1 then some (y13.1, ((upd y13.2.1 5 (w 5)), y13.2.2)) else (if y13.1 = (-9) then some (y14, ((upd y13.2.1 5 (w 5)), y13.2.2)) else some (((-100) - y13.1), ((upd y13.2.1 5 (w 5)), y13.2.2))))))
theorem year_ref {v : V1} {r : V2} {w : V1} {q : V2} {c j N a P : Nat} (hj : j < 4) (hN : N ≤ 60) (h3 : r 11 j = nI N) (h5 : ∀ x, x < N → r (12 + j) x = q 2 (60 * j + x)) (haP : a + 2 * P ≤ N) (c2 : v 2 = nI c) (w4 : w 4 = nI c) (hc : c ≤ 6) (s1 s2 s3 a5 : Int32) : ∀ (n x fu fu' : Nat), x + n = P → n < fu → n < fu' → (∃ y, y ≠ 0 ∧ f_X6_refusalOf_3 v r j (nI a) (nI P) fu (nI x) = some y ∧ f_X8_year_91 s1 s2 s3 (nI P) a5 fu' (nI (60 * j + a)) (nI x) w q = some (y, (w, q))) ∨ (f_X6_refusalOf_3 v r j (nI a) (nI P) fu (nI x) = some 0 ∧ f_X8_year_91 s1 s2 s3 (nI P) a5 fu' (nI (60 * j + a)) (nI x) w q = YE (nI P) (nI (60 * j + a)) a5 w q ∧ ∀ p, x ≤ p → p < P → ∃ A B, A < c ∧ B ≤ 1 ∧ q 2 (60 * j + (a + 2 * p)) = nI A ∧ q 2 (60 * j + (a + 2 * p + 1)) = nI B) := by
  intro n
  induction n with
  | zero =>
    intro x fu fu' hx hf hf'
    obtain ⟨f1, rfl⟩ : ∃ f', fu = f' + 1 := ⟨fu - 1, by omega⟩
    obtain ⟨f2, rfl⟩ : ∃ f', fu' = f' + 1 := ⟨fu' - 1, by omega⟩
    right
    have e : nI P ≤ nI x := nI_le (by omega) (by omega)
    rw [f_X6_refusalOf_3_s, f_X8_year_91_s, if_pos e, if_pos e]
    exact ⟨rfl, rfl, fun p h1 h2 => by omega⟩
  | succ n ih =>
    intro x fu fu' hx hf hf'
    obtain ⟨f1, rfl⟩ : ∃ f', fu = f' + 1 := ⟨fu - 1, by omega⟩
    obtain ⟨f2, rfl⟩ : ∃ f', fu' = f' + 1 := ⟨fu' - 1, by omega⟩
    have e : ¬ nI P ≤ nI x := nI_ge (by omega) (by omega)
    have i1 : nI (60 * j + a) + 2 * nI x = nI (60 * j + (a + 2 * x)) := by rw [yx, Nat.add_assoc]
    have i2 : nI (60 * j + (a + 2 * x)) + 1 = nI (60 * j + (a + 2 * x + 1)) := by rw [nI_1, Nat.add_assoc]
    have i3 : nI (a + 2 * x) + 1 = nI (a + 2 * x + 1) := nI_1 _
    have k1 : inR (nI (60 * j + (a + 2 * x))) 240 = true := inR_nI (by omega) (by decide)
    have k2 : inR (nI (60 * j + (a + 2 * x + 1))) 240 = true := inR_nI (by omega) (by decide)
    have l1 : (nI (60 * j + (a + 2 * x))).toNatClampNeg = 60 * j + (a + 2 * x) := nI_clamp (by omega)
    have l2 : (nI (60 * j + (a + 2 * x + 1))).toNatClampNeg = 60 * j + (a + 2 * x + 1) := nI_clamp (by omega)
    rw [f_X6_refusalOf_3_s, f_X8_year_91_s, if_neg e, if_neg e, yx, i1, i2, i3, at_nat v h3 hN (a := a + 2 * x) (by omega), at_nat v h3 hN (a := a + 2 * x + 1) (by omega), Option.bind_some, Option.bind_some, if_pos k1, if_pos k2, l1, l2, h5 _ (by omega), h5 _ (by omega), within8]
    rcases art_cases c2 w4 hc r q (q 2 (60 * j + (a + 2 * x))) with ⟨g1, g2⟩ | ⟨A, hA, e1, g1, g2⟩
    · left
      refine ⟨-1, by decide, ?_, ?_⟩
      · rw [g1, if_neg Bool.false_ne_true]
      · rw [g2, if_neg Bool.false_ne_true]
    · rw [if_pos g1, if_pos g2]
      cases hb : f_X7_within (q 2 (60 * j + (a + 2 * x + 1))) 0 1 with
      | false =>
        left
        exact ⟨-2, by decide, rfl, rfl⟩
      | true =>
        obtain ⟨B, hB, e2⟩ := within_nI (M := 1) (by decide) hb
        rw [if_pos rfl, if_pos rfl, nI_1]
        rcases ih (x + 1) f1 f2 (by omega) (by omega) (by omega) with h | ⟨h1, h2, h3⟩
        · exact Or.inl h
        · refine Or.inr ⟨h1, h2, fun p hp1 hp2 => ?_⟩
          rcases Nat.eq_or_lt_of_le hp1 with h | h
          · subst h; exact ⟨A, B, hA, hB, e1, e2⟩
          · exact h3 p h hp2
def YP (c : Nat) (v w v1 w1 : V1) (e : Int32) : Prop := (∀ i, i ≠ 8 → i ≠ 9 → i ≠ 10 → i ≠ 11 → v1 i = v i) ∧ (∀ i, i ≠ 5 → i ≠ 10 → i ≠ 11 → w1 i = w i) ∧ v1 11 = e ∧ v1 9 = w1 10 ∧ v1 10 = w1 11 ∧ ∃ s, s < 2 ^ c ∧ v1 8 = nI s ∧ w1 5 = nI s
theorem year_go {v : V1} {r : V2} {w : V1} {q : V2} {c : Nat} {kd gy lo : Nat → Int32} (c2 : v 2 = nI c) (w4 : w 4 = nI c) (hc : c ≤ 6) (r0 : r 0 = kd) (r2 : r 2 = gy) (r3 : r 3 = lo) (q4 : q 4 = kd) (q6 : q 6 = gy) (q7 : q 7 = lo) (h1 : ∀ j, ∃ z, z < 3 ∧ kd j = nI z) (h2 : ∀ j, ∃ z, z ≤ 9 ∧ gy j = nI z) {s : Nat} (hs : s < 2 ^ c) : ∃ (m1 : Nat) (x p L : Int32), m1 < 2 ^ c ∧ f_X6_go v r (nI s) = some (upd (upd (upd v 8 (nI m1)) 9 (v 9 + p)) 10 (if v 10 < L then L else v 10), r) ∧ f_X8_comes w q (nI s) = some (x, (upd w 5 (nI m1), q)) ∧ f_X8_size x = some p ∧ ∀ w', w' 4 = nI c → f_X8_laughsOf w' q (nI m1) = some L := by
  obtain ⟨m1, hm1, e⟩ := CO_nat (kd := kd) (gy := gy) (lo := lo) hc hs
  have hs64 := p64 hc hs
  have hm64 := p64 hc hm1
  have hx : s - (s &&& m1) < 64 := by omega
  refine ⟨m1, nI (s - (s &&& m1)), nI (pcn (s - (s &&& m1))), LGS c kd gy (nI m1), hm1, ?_, ?_, size_nat hx, fun w' hw' => M_laughsOf hw' hc q4 q6 h1 h2 _⟩
  · unfold f_X6_go
    rw [C_companyOf c2 hc r0 r2 r3 hs, e, Option.bind_some, pk_us, andn' hs64 hm64, pcn_eq hx, pk_un (show (9 : Nat) ≠ 8 by decide), pk_un (show (8 : Nat) ≠ 9 by decide), pk_us, C_laughOf (by rw [pk_un (by decide), pk_un (by decide), c2]) hc r0 r2, Option.bind_some, pk_un (show (10 : Nat) ≠ 9 by decide), pk_un (show (10 : Nat) ≠ 8 by decide)]
  · unfold f_X8_comes
    rw [M_companyOf w4 hc q4 q6 q7 h1 h2 hs, e, Option.bind_some, pk_us, andn' hs64 hm64]
theorem year_run {v : V1} {r : V2} {w : V1} {q : V2} {c j N a P : Nat} {kd gy lo : Nat → Int32} (hj : j < 4) (hN : N ≤ 60) (h3 : r 11 j = nI N) (h5 : ∀ x, x < N → r (12 + j) x = q 2 (60 * j + x)) (haP : a + 2 * P ≤ N) (c2 : v 2 = nI c) (w4 : w 4 = nI c) (hc : c ≤ 6) (r0 : r 0 = kd) (r2 : r 2 = gy) (r3 : r 3 = lo) (q4 : q 4 = kd) (q6 : q 6 = gy) (q7 : q 7 = lo) (h1 : ∀ j, ∃ z, z < 3 ∧ kd j = nI z) (h2 : ∀ j, ∃ z, z ≤ 9 ∧ gy j = nI z) (hp : ∀ p, p < P → ∃ A B, A < c ∧ B ≤ 1 ∧ q 2 (60 * j + (a + 2 * p)) = nI A ∧ q 2 (60 * j + (a + 2 * p + 1)) = nI B) : ∀ (n x fu fu' : Nat) (v9 w9 : V1), x + n = P → n < fu → n < fu' → YP c v w v9 w9 (-9) → ∃ (v1 w1 : V1) (e : Int32), f_X6_run_30 j (nI a) (nI P) fu (nI x) v9 r = some (v1, r) ∧ f_X8_goYear_12 (nI (60 * j + a)) (nI P) fu' (nI x) w9 q = some (e, (w1, q)) ∧ YP c v w v1 w1 e := by
  intro n
  induction n with
  | zero =>
    intro x fu fu' v9 w9 hx hf hf' hY
    obtain ⟨f1, rfl⟩ : ∃ f', fu = f' + 1 := ⟨fu - 1, by omega⟩
    obtain ⟨f2, rfl⟩ : ∃ f', fu' = f' + 1 := ⟨fu' - 1, by omega⟩
    have e : nI P ≤ nI x := nI_le (by omega) (by omega)
    rw [f_X6_run_30_s, f_X8_goYear_12_s, if_pos e, if_pos e]
    exact ⟨v9, w9, -9, rfl, rfl, hY⟩
  | succ n ih =>
    intro x fu fu' v9 w9 hx hf hf' hY
    obtain ⟨f1, rfl⟩ : ∃ f', fu = f' + 1 := ⟨fu - 1, by omega⟩
    obtain ⟨f2, rfl⟩ : ∃ f', fu' = f' + 1 := ⟨fu' - 1, by omega⟩
    have e : ¬ nI P ≤ nI x := nI_ge (by omega) (by omega)
    have i1 : nI (60 * j + a) + 2 * nI x = nI (60 * j + (a + 2 * x)) := by rw [yx, Nat.add_assoc]
    have i2 : nI (60 * j + (a + 2 * x)) + 1 = nI (60 * j + (a + 2 * x + 1)) := by rw [nI_1, Nat.add_assoc]
    have i3 : nI (a + 2 * x) + 1 = nI (a + 2 * x + 1) := nI_1 _
    have k1 : inR (nI (60 * j + (a + 2 * x))) 240 = true := inR_nI (by omega) (by decide)
    have k2 : inR (nI (60 * j + (a + 2 * x + 1))) 240 = true := inR_nI (by omega) (by decide)
    have l1 : (nI (60 * j + (a + 2 * x))).toNatClampNeg = 60 * j + (a + 2 * x) := nI_clamp (by omega)
    have l2 : (nI (60 * j + (a + 2 * x + 1))).toNatClampNeg = 60 * j + (a + 2 * x + 1) := nI_clamp (by omega)
    obtain ⟨A, B, hA, hB, eA, eB⟩ := hp x (by omega)
    obtain ⟨y1, y2, y3, y4, y5, s, hs, y6, y7⟩ := id hY
    have hA6 : A < 6 := by omega
    have hs64 := p64 hc hs
    have d2 : v9 2 = nI c := by rw [y1 2 (by decide) (by decide) (by decide) (by decide), c2]
    have d4 : w9 4 = nI c := by rw [y2 4 (by decide) (by decide) (by decide), w4]
    have key : ∀ s', s' < 2 ^ c → ∃ (v1 w1 : V1) (e : Int32), (f_X6_go v9 r (nI s')).bind (fun y13 => f_X6_run_30 j (nI a) (nI P) f1 (nI (x + 1)) y13.1 y13.2) = some (v1, r) ∧ (f_X8_comes w9 q (nI s')).bind (fun y15 => (f_X8_size y15.1).bind (fun y16 => (f_X8_laughsOf (upd y15.2.1 10 ((w9 10) + y16)) y15.2.2 ((upd y15.2.1 10 ((w9 10) + y16)) 5)).bind (fun y17 => (if y17 ≤ ((upd y15.2.1 10 ((w9 10) + y16)) 11) then f_X8_goYear_12 (nI (60 * j + a)) (nI P) f2 (nI (x + 1)) (upd (upd y15.2.1 10 ((w9 10) + y16)) 11 ((upd y15.2.1 10 ((w9 10) + y16)) 11)) y15.2.2 else f_X8_goYear_12 (nI (60 * j + a)) (nI P) f2 (nI (x + 1)) (upd (upd y15.2.1 10 ((w9 10) + y16)) 11 y17) y15.2.2)))) = some (e, (w1, q)) ∧ YP c v w v1 w1 e := by
      intro s' hs'
      obtain ⟨m1, xx, p, L, hm1, g1, g2, g3, g4⟩ := year_go d2 d4 hc r0 r2 r3 q4 q6 q7 h1 h2 hs'
      rw [g1, g2, Option.bind_some, Option.bind_some, g3, Option.bind_some]
      dsimp only
      rw [pk_un (show (5 : Nat) ≠ 10 by decide), pk_us, g4 _ (by rw [pk_un (by decide), pk_un (by decide), d4]), Option.bind_some, pk_un (show (11 : Nat) ≠ 10 by decide), pk_un (show (11 : Nat) ≠ 5 by decide)]
      have hl : L ≤ w9 11 ↔ ¬ v9 10 < L := by
        rw [y5, i32_lt_iff, Classical.not_not]
      by_cases hL : L ≤ w9 11
      · rw [if_pos hL, if_neg (hl.mp hL)]
        refine ih (x + 1) f1 f2 _ _ (by omega) (by omega) (by omega) ⟨fun i z1 z2 z3 z4 => ?_, fun i z1 z2 z3 => ?_, ?_, ?_, ?_, m1, hm1, ?_, ?_⟩
        · rw [pk_un z3, pk_un z2, pk_un z1, y1 i z1 z2 z3 z4]
        · rw [pk_un z3, pk_un z2, pk_un z1, y2 i z1 z2 z3]
        · rw [pk_un (by decide), pk_un (by decide), pk_un (by decide), y3]
        · rw [pk_un (show (9 : Nat) ≠ 10 by decide), pk_us, pk_un (show (10 : Nat) ≠ 11 by decide), pk_us, y4]
        · rw [pk_us, pk_us, y5]
        · rw [pk_un (by decide), pk_un (by decide), pk_us]
        · rw [pk_un (by decide), pk_un (by decide), pk_us]
      · rw [if_neg hL, if_pos (Classical.byContradiction (fun z => hL (hl.mpr z)))]
        refine ih (x + 1) f1 f2 _ _ (by omega) (by omega) (by omega) ⟨fun i z1 z2 z3 z4 => ?_, fun i z1 z2 z3 => ?_, ?_, ?_, ?_, m1, hm1, ?_, ?_⟩
        · rw [pk_un z3, pk_un z2, pk_un z1, y1 i z1 z2 z3 z4]
        · rw [pk_un z3, pk_un z2, pk_un z1, y2 i z1 z2 z3]
        · rw [pk_un (by decide), pk_un (by decide), pk_un (by decide), y3]
        · rw [pk_un (show (9 : Nat) ≠ 10 by decide), pk_us, pk_un (show (10 : Nat) ≠ 11 by decide), pk_us, y4]
        · rw [pk_us, pk_us]
        · rw [pk_un (by decide), pk_un (by decide), pk_us]
        · rw [pk_un (by decide), pk_un (by decide), pk_us]
    have wrong : ∃ (v1 w1 : V1) (e : Int32), f_X6_run_30 j (nI a) (nI P) f1 (nI (x + 1)) (upd v9 11 (nI x)) r = some (v1, r) ∧ (some (nI x, (w9, q)) : Option (Int32 × ST)) = some (e, (w1, q)) ∧ YP c v w v1 w1 e := by
      obtain ⟨f3, rfl⟩ : ∃ f', f1 = f' + 1 := ⟨f1 - 1, by omega⟩
      refine ⟨upd v9 11 (nI x), w9, nI x, ?_, rfl, fun i z1 z2 z3 z4 => ?_, y2, pk_us, ?_, ?_, s, hs, ?_, y7⟩
      · rw [f_X6_run_30_s, pk_us, if_neg (nIm9 (a := x) (by omega))]
        split <;> rfl
      · rw [pk_un z4, y1 i z1 z2 z3 z4]
      · rw [pk_un (by decide), y4]
      · rw [pk_un (by decide), y5]
      · rw [pk_un (by decide), y6]
    rw [f_X6_run_30_s, f_X8_goYear_12_s, if_neg e, if_neg e, y3, if_pos rfl, yx, i1, i2, i3, at_nat v9 h3 hN (a := a + 2 * x) (by omega), at_nat v9 h3 hN (a := a + 2 * x + 1) (by omega), Option.bind_some, Option.bind_some, if_pos k1, if_pos k2, l1, l2, h5 _ (by omega), h5 _ (by omega), eA, eB, y6, y7, isOf8, nI_1]
    rcases (show B = 0 ∨ B = 1 by omega) with rfl | rfl
    · rw [if_neg (show ¬ nI 0 = 1 by decide), if_neg (show ¬ nI 0 = 1 by decide)]
      cases hb : f_X7_has (nI s) (nI A) with
      | false =>
        rw [if_pos (show bI false = 0 from rfl), if_pos (show bI false = 0 from rfl), orb ⟨s, hs64⟩ ⟨A, hA6⟩]
        exact key _ (or_lt hs hA)
      | true =>
        rw [if_neg (show ¬ bI true = 0 by decide), if_neg (show ¬ bI true = 0 by decide)]
        exact wrong
    · rw [if_pos (show nI 1 = 1 from rfl), if_pos (show nI 1 = 1 from rfl)]
      cases hb : f_X7_has (nI s) (nI A) with
      | true =>
        rw [if_pos (show bI true = 1 from rfl), if_pos (show bI true = 1 from rfl), offb ⟨s, hs64⟩ ⟨A, hA6⟩]
        exact key _ (Nat.lt_of_le_of_lt (Nat.sub_le _ _) hs)
      | false =>
        rw [if_neg (show ¬ bI false = 1 by decide), if_neg (show ¬ bI false = 1 by decide)]
        exact wrong
theorem year_tell {v : V1} {r : V2} {w : V1} {q : V2} {c : Nat} {kd gy : Nat → Int32} {e : Int32} (c2 : v 2 = nI c) (w4 : w 4 = nI c) (hc : c ≤ 6) (r0 : r 0 = kd) (r2 : r 2 = gy) (q4 : q 4 = kd) (q6 : q 6 = gy) (h1 : ∀ j, ∃ z, z < 3 ∧ kd j = nI z) (h2 : ∀ j, ∃ z, z ≤ 9 ∧ gy j = nI z) (y3 : v 11 = e) (y4 : v 9 = w 10) (y5 : v 10 = w 11) {s : Nat} (hs : s < 2 ^ c) (y6 : v 8 = nI s) (y7 : w 5 = nI s) (a5 : Int32) : ∃ y, f_X8_tellYear w q a5 = some y ∧ f_X6_answer v r a5 = some (if a5 = 1 then e else if e = -9 then y else -100 - e) := by
  unfold f_X8_tellYear f_X6_answer
  rw [y3, y4, y5, y6, y7, size_nat (p64 hc hs), pcn_eq (p64 hc hs), M_laughsOf w4 hc q4 q6 h1 h2, C_laughOf c2 hc r0 r2]
  simp only [Option.bind_some]
  by_cases g0 : a5 = 0
  · subst g0
    refine ⟨_, if_pos rfl, ?_⟩
    rw [if_neg (show ¬ (0 : Int32) = 1 by decide), if_neg (show ¬ (0 : Int32) = 1 by decide), if_pos rfl]
    split <;> rfl
  · simp only [if_neg g0]
    by_cases g1 : a5 = 1
    · simp only [if_pos g1]
      exact ⟨_, rfl, trivial⟩
    · simp only [if_neg g1]
      by_cases g2 : a5 = 2
      · simp only [if_pos g2]
        refine ⟨_, rfl, ?_⟩
        split <;> rfl
      · simp only [if_neg g2]
        by_cases g3 : a5 = 3
        · simp only [if_pos g3]
          refine ⟨_, rfl, ?_⟩
          split <;> rfl
        · simp only [if_neg g3]
          by_cases g4 : a5 = 4
          · simp only [if_pos g4]
            refine ⟨_, rfl, ?_⟩
            split <;> rfl
          · simp only [if_neg g4]
            refine ⟨_, rfl, ?_⟩
            split <;> rfl
theorem op13 : Op13 Rel := by
  intro v r w q z0 z1 z2 z3 z4 hR0
  have hR := Rel_fault hR0 0
  unfold f_X7_year f_X8_year
  generalize upd v 1 0 = v' at hR ⊢
  generalize upd w 0 0 = w' at hR ⊢
  have hS := hR.2.2.1
  rw [isSheet8, isSort8, within8]
  cases hb : f_X7_isSheet z0 with
  | false => exact ⟨_, _, r, _, q, rfl, rfl, hR⟩
  | true =>
    obtain ⟨j, hj, rfl⟩ := isSheet_nI hb
    cases hb2 : f_X7_isLane z1 with
    | false => exact ⟨_, _, r, _, q, rfl, rfl, hR⟩
    | true =>
      obtain ⟨la, hla, rfl⟩ := isLane_nI hb2
      cases hb3 : f_X7_within z3 0 20 with
      | false => exact ⟨_, _, r, _, q, rfl, rfl, hR⟩
      | true =>
        obtain ⟨P, hP, rfl⟩ := within_nI (M := 20) (by decide) hb3
        cases hb4 : f_X7_within z4 0 5 with
        | false => exact ⟨_, _, r, _, q, rfl, rfl, hR⟩
        | true =>
          rw [if_pos rfl, if_pos rfl, if_pos rfl, if_pos rfl, if_pos rfl, if_pos rfl, if_pos rfl, if_pos rfl, if_pos (in4 hj), cl4 hj, take_eq hS v' w' hj hla, Option.bind_some]
          by_cases hf : f_X4_faultOfTaking v' r j (nI la) z2 (2 * nI P) = 0
          · rw [if_pos hf, if_pos hf]
            obtain ⟨N, a, b, hN, t1, t2, t3, t4, rfl, t5, t6, t7⟩ := take_0 hS v' hj hf
            have eb : b = 2 * P := by
              have e : (2 : Int32) * nI P = nI (2 * P) := by
                show nI 2 * nI P = _
                rw [pk_mul]
              rw [e] at t5
              exact ((nI_eq (by omega) (by omega)).mp t5).symm
            subst eb
            obtain ⟨ht, hf', -, c, d, k, m, t, kd, bk, gy, lo, sp, cn, vl, hG, hC, hM⟩ := id hR
            rcases stands_cases hC.1 hM.1 hG.1 r with ⟨-, g1, g2⟩ | ⟨-, g1, g2⟩
            · rw [g1, if_neg Bool.false_ne_true, if_pos g2]
              exact ⟨_, _, r, _, q, rfl, rfl, hR⟩
            · have eX : (60 : Int32) * nI j + nI a = nI (60 * j + a) := by
                show nI 60 * nI j + nI a = _
                rw [pk_mul, nI_add]
              rw [if_pos g1, if_neg g2, eX]
              unfold f_X6_refusalOf
              have hr := year_ref (P := P) hj hN t3 t7 t6 hC.1 hM.1 hG.1 (nI j) (nI la) (nI a) z4 P 0 80 80 (by omega) (by omega) (by omega)
              rw [nI_0] at hr
              rcases hr with ⟨y, hy, e1, e2⟩ | ⟨e1, e2, e3⟩
              · rw [e1, e2, Option.bind_some, if_neg hy]
                exact ⟨_, _, r, _, q, rfl, rfl, hR⟩
              · rw [e1, e2, Option.bind_some, if_pos rfl]
                unfold f_X6_run YE f_X8_goYear
                obtain ⟨c2, c3, c4, c5, c6, r0, r1, r2, r3, r4, r5, r6⟩ := hC
                obtain ⟨w4, w3, w2, w5, w13, q4, q5, q6, q7, q3, q16, q17⟩ := hM
                have hY0 : YP c v' w' (upd (upd (upd (upd v' 8 (v' 5)) 9 0) 10 0) 11 (-9)) (upd (upd w' 10 0) 11 0) (-9) := by
                  refine ⟨fun i z1 z2 z3 z4 => ?_, fun i z1 z2 z3 => ?_, pk_us, ?_, ?_, m, hG.2.2.2.2.1, ?_, ?_⟩
                  · rw [pk_un z4, pk_un z3, pk_un z2, pk_un z1]
                  · rw [pk_un z3, pk_un z2]
                  · simp [upd]
                  · simp [upd]
                  · simp [upd, c5]
                  · simp [upd, w5]
                obtain ⟨v1, w1, e, u1, u2, u3, u4, u5, u6, u7, s, hs, u8, u9⟩ := year_run (v := v') (w := w') hj hN t3 t7 t6 c2 w4 hG.1 r0 r2 r3 q4 q6 q7 hG.2.2.2.2.2.2.1 hG.2.2.2.2.2.2.2.2.1 (fun p hp => e3 p (by omega) hp) P 0 80 80 _ _ (by omega) (by omega) (by omega) hY0
                rw [nI_0] at u1 u2
                rw [u1, u2, Option.bind_some, Option.bind_some]
                dsimp only
                obtain ⟨y, a1, a2⟩ := year_tell (v := v1) (w := w1) (r := r) (q := q) (by rw [u3 2 (by decide) (by decide) (by decide) (by decide), c2]) (by rw [u4 4 (by decide) (by decide) (by decide), w4]) hG.1 r0 r2 q4 q6 hG.2.2.2.2.2.2.1 hG.2.2.2.2.2.2.2.2.1 u5 u6 u7 hs u8 u9 z4
                rw [a1, a2, Option.bind_some, Option.bind_some]
                have hR1 : Rel v1 r (upd w1 5 (w' 5)) q := Rel_of c d k m t kd bk gy lo sp cn vl (by rw [u3 0 (by decide) (by decide) (by decide) (by decide), pk_un (by decide), u4 1 (by decide) (by decide) (by decide), ht]) (by rw [u3 1 (by decide) (by decide) (by decide) (by decide), pk_un (by decide), u4 0 (by decide) (by decide) (by decide), hf']) hS hG (by rw [u3 2 (by decide) (by decide) (by decide) (by decide), c2]) (by rw [u3 3 (by decide) (by decide) (by decide) (by decide), c3]) (by rw [u3 4 (by decide) (by decide) (by decide) (by decide), c4]) (by rw [u3 5 (by decide) (by decide) (by decide) (by decide), c5]) (by rw [u3 6 (by decide) (by decide) (by decide) (by decide), c6]) r0 r1 r2 r3 r4 r5 r6 (by rw [pk_un (by decide), u4 4 (by decide) (by decide) (by decide), w4]) (by rw [pk_un (by decide), u4 3 (by decide) (by decide) (by decide), w3]) (by rw [pk_un (by decide), u4 2 (by decide) (by decide) (by decide), w2]) (by rw [pk_us, w5]) (by rw [pk_un (by decide), u4 13 (by decide) (by decide) (by decide), w13]) q4 q5 q6 q7 q3 q16 q17
                refine ⟨_, v1, r, upd w1 5 (w' 5), q, rfl, ?_, hR1⟩
                split
                · rfl
                · split <;> rfl
          · rw [if_neg hf, if_neg hf]
            unfold f_X7_failed f_X8_fails
            exact ⟨_, _, r, _, q, rfl, rfl, Rel_fault hR _⟩
