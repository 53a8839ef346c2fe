/-! by what was heard: the reference's side, and calls 19, 20, 21 -/
theorem upd_self' (f : Nat → Int32) (a : Nat) : upd f a (f a) = f := by
  funext j
  unfold upd
  by_cases h : j = a
  · subst h; simp
  · simp [h]
theorem or0L (x : Int64) : x ||| 0 = x := by
  apply Int64.toBitVec_inj.mp
  simp
theorem M_gai_loop {w : V1} {q : V2} {c d k m t a z : Nat} {kd bk gy lo sp cn vl : Nat → Int32} (hG : RG c d k m t kd bk gy lo sp cn vl) (hM : MS c d k m t kd bk gy lo sp cn vl w q) (ha : a < c) (hz : z < 3) (hkz : kd a = nI z) : ∀ (n x fu : Nat) (acc : Int32) (q2 : V2) (y : Int32), x + n = 10 → n < fu → (∀ i, i ≠ 6 → q2 i = q i) → q2 6 = upd gy a y → ∃ q1, f_X8_gaieties_22 (nI a) fu (gy a) acc (nI x) w q2 = some (bitsI (fun g => allb (fun i => decide (nI (HR (LN (fun j => m.testBit j) (fun j => if j = a then lk z g else lan kd gy j) c) k (czn cn i)) = vl i)) t 0) x n acc, (w, q1)) ∧ (∀ i, i ≠ 6 → q1 i = q i) ∧ q1 6 = gy := by
  intro n
  obtain ⟨w4, w3, w2, w5, w13, q4, q5, q6, q7, q3, q16, q17⟩ := hM
  have ha6 : a < 6 := by have := hG.1; omega
  have hi := inR_nI (k := a) (N := 6) ha6 (by decide)
  induction n with
  | zero =>
    intro x fu acc q2 y hx hf h1 h2
    obtain ⟨f', rfl⟩ : ∃ f', fu = f' + 1 := ⟨fu - 1, by omega⟩
    have e : x = 10 := by omega
    subst e
    refine ⟨va_up q2 6 (upd (q2 6) a (gy a)), ?_, fun i hi => by rw [va_up_ne _ _ hi, h1 i hi], ?_⟩
    · rw [f_X8_gaieties_22_s, if_pos (show (9 : Int32) < nI 10 by decide), if_pos hi, cl6 ha6]
      rfl
    · rw [va_up_self, h2, fa_upd_twice', upd_self']
  | succ n ih =>
    intro x fu acc q2 y hx hf h1 h2
    obtain ⟨f', rfl⟩ : ∃ f', fu = f' + 1 := ⟨fu - 1, by omega⟩
    have h9 : ¬ (9 : Int32) < nI x := nI_nlt (a := 9) (b := x) (by omega) (by omega)
    obtain ⟨e1, e2⟩ := lk_ok hz (g := x) (by omega)
    have hrow : ∀ i, i ≠ 6 → va_up q2 6 (upd (q2 6) a (nI x)) i = q i := fun i hi => by rw [va_up_ne _ _ hi, h1 i hi]
    have h6 : va_up q2 6 (upd (q2 6) a (nI x)) 6 = upd gy a (nI x) := by rw [va_up_self, h2, fa_upd_twice']
    have hgy : ∀ j, ∃ z, z ≤ 9 ∧ upd gy a (nI x) j = nI z := upd_rng hG.2.2.2.2.2.2.2.2.1 (by omega)
    have hLN : LN (fun j => m.testBit j) (lan kd (upd gy a (nI x))) c = LN (fun j => m.testBit j) (fun j => if j = a then lk z x else lan kd gy j) c := LN_congr c (fun j _ => ⟨rfl, lan_upd_g (by rw [hkz]; exact e1) e2 j⟩)
    have hl : f_X8_laughsOf w (va_up q2 6 (upd (q2 6) a (nI x))) (nI m) = some (nI (LN (fun j => m.testBit j) (fun j => if j = a then lk z x else lan kd gy j) c)) := by
      rw [M_laughsOf w4 hG.1 (by rw [hrow 4 (by decide), q4]) h6 hG.2.2.2.2.2.2.1 hgy, LGS_LN hG.1 (p64 hG.1 hG.2.2.2.2.1) hG.2.2.2.2.2.2.1 hgy, hLN]
    have hall := M_all hl w2 w5 w13 hG.2.2.2.2.2.1 (by rw [hrow 16 (by decide), q16]) (by rw [hrow 17 (by decide), q17]) hG.2.2.2.2.2.2.2.2.2.2.2.1 (LN108 (ite18 (fun j => (lan_eq hG.2.2.2.2.2.2.1 hG.2.2.2.2.2.2.2.2.1 j).2) e2) hG.1) hG.2.2.2.1
    rw [f_X8_gaieties_22_s, if_neg h9, if_pos hi, cl6 ha6, hall, Option.bind_some]
    show ∃ q1, _ = some (iter _ (x + 1) n (if allb (fun i => decide (nI (HR (LN (fun j => m.testBit j) (fun j => if j = a then lk z x else lan kd gy j) c) k (czn cn i)) = vl i)) t 0 = true then acc ||| (1 : Int32) <<< (nI x &&& 31) else acc), (w, q1)) ∧ _
    by_cases h : allb (fun i => decide (nI (HR (LN (fun j => m.testBit j) (fun j => if j = a then lk z x else lan kd gy j) c) k (czn cn i)) = vl i)) t 0 = true
    · rw [if_pos h, if_pos h, nI_1]
      exact ih (x + 1) f' _ _ (nI x) (by omega) (by omega) hrow h6
    · rw [if_neg h, if_neg h, nI_1, or0]
      exact ih (x + 1) f' _ _ (nI x) (by omega) (by omega) hrow h6
theorem M_kin_loop {w : V1} {q : V2} {c d k m t a g : Nat} {kd bk gy lo sp cn vl : Nat → Int32} (hG : RG c d k m t kd bk gy lo sp cn vl) (hM : MS c d k m t kd bk gy lo sp cn vl w q) (ha : a < c) (hg : g ≤ 9) (hgg : gy a = nI g) : ∀ (n x fu : Nat) (acc : Int32) (q2 : V2) (y : Int32), x + n = 3 → n < fu → (∀ i, i ≠ 4 → q2 i = q i) → q2 4 = upd kd a y → ∃ q1, f_X8_kinds_22 (nI a) fu (kd a) acc (nI x) w q2 = some (bitsI (fun z => allb (fun i => decide (nI (HR (LN (fun j => m.testBit j) (fun j => if j = a then lk z g else lan kd gy j) c) k (czn cn i)) = vl i)) t 0) x n acc, (w, q1)) ∧ (∀ i, i ≠ 4 → q1 i = q i) ∧ q1 4 = kd := by
  intro n
  obtain ⟨w4, w3, w2, w5, w13, q4, q5, q6, q7, q3, q16, q17⟩ := hM
  have ha6 : a < 6 := by have := hG.1; omega
  have hi := inR_nI (k := a) (N := 6) ha6 (by decide)
  induction n with
  | zero =>
    intro x fu acc q2 y hx hf h1 h2
    obtain ⟨f', rfl⟩ : ∃ f', fu = f' + 1 := ⟨fu - 1, by omega⟩
    have e : x = 3 := by omega
    subst e
    refine ⟨va_up q2 4 (upd (q2 4) a (kd a)), ?_, fun i hi => by rw [va_up_ne _ _ hi, h1 i hi], ?_⟩
    · rw [f_X8_kinds_22_s, if_pos (show (3 : Int32) ≤ nI 3 by decide), if_pos hi, cl6 ha6]
      rfl
    · rw [va_up_self, h2, fa_upd_twice', upd_self']
  | succ n ih =>
    intro x fu acc q2 y hx hf h1 h2
    obtain ⟨f', rfl⟩ : ∃ f', fu = f' + 1 := ⟨fu - 1, by omega⟩
    have h9 : ¬ (3 : Int32) ≤ nI x := nI_ge (a := x) (b := 3) (by omega) (by omega)
    obtain ⟨e1, e2⟩ := lk_ok (z := x) (by omega) hg
    have hrow : ∀ i, i ≠ 4 → va_up q2 4 (upd (q2 4) a (nI x)) i = q i := fun i hi => by rw [va_up_ne _ _ hi, h1 i hi]
    have h4 : va_up q2 4 (upd (q2 4) a (nI x)) 4 = upd kd a (nI x) := by rw [va_up_self, h2, fa_upd_twice']
    have hkd : ∀ j, ∃ z, z < 3 ∧ upd kd a (nI x) j = nI z := upd_rngS hG.2.2.2.2.2.2.1 (by omega)
    have hLN : LN (fun j => m.testBit j) (lan (upd kd a (nI x)) gy) c = LN (fun j => m.testBit j) (fun j => if j = a then lk x g else lan kd gy j) c := LN_congr c (fun j _ => ⟨rfl, lan_upd_k (by rw [hgg]; exact e1) e2 j⟩)
    have hl : f_X8_laughsOf w (va_up q2 4 (upd (q2 4) a (nI x))) (nI m) = some (nI (LN (fun j => m.testBit j) (fun j => if j = a then lk x g else lan kd gy j) c)) := by
      rw [M_laughsOf w4 hG.1 h4 (by rw [hrow 6 (by decide), q6]) hkd hG.2.2.2.2.2.2.2.2.1, LGS_LN hG.1 (p64 hG.1 hG.2.2.2.2.1) hkd hG.2.2.2.2.2.2.2.2.1, hLN]
    have hall := M_all hl w2 w5 w13 hG.2.2.2.2.2.1 (by rw [hrow 16 (by decide), q16]) (by rw [hrow 17 (by decide), q17]) hG.2.2.2.2.2.2.2.2.2.2.2.1 (LN108 (ite18 (fun j => (lan_eq hG.2.2.2.2.2.2.1 hG.2.2.2.2.2.2.2.2.1 j).2) e2) hG.1) hG.2.2.2.1
    rw [f_X8_kinds_22_s, if_neg h9, if_pos hi, cl6 ha6, hall, Option.bind_some]
    show ∃ q1, _ = some (iter _ (x + 1) n (if allb (fun i => decide (nI (HR (LN (fun j => m.testBit j) (fun j => if j = a then lk x g else lan kd gy j) c) k (czn cn i)) = vl i)) t 0 = true then acc ||| (1 : Int32) <<< (nI x &&& 31) else acc), (w, q1)) ∧ _
    by_cases h : allb (fun i => decide (nI (HR (LN (fun j => m.testBit j) (fun j => if j = a then lk x g else lan kd gy j) c) k (czn cn i)) = vl i)) t 0 = true
    · rw [if_pos h, if_pos h, nI_1]
      exact ih (x + 1) f' _ _ (nI x) (by omega) (by omega) hrow h4
    · rw [if_neg h, if_neg h, nI_1, or0]
      exact ih (x + 1) f' _ _ (nI x) (by omega) (by omega) hrow h4
theorem op19 : Op19 Rel := by
  intro v r w q z0 hR
  obtain ⟨ht, hf, hS, c, d, k, m, t, kd, bk, gy, lo, sp, cn, vl, hG, hC, hM⟩ := id hR
  unfold f_X7_gaieties f_X8_gaieties
  rcases art_cases hC.1 hM.1 hG.1 r q z0 with ⟨h1, h2⟩ | ⟨j, hj, rfl, h1, h2⟩
  · exact ⟨-1, w, q, by simp [h1], by simp [h2], hR⟩
  · have hj6 : j < 6 := by have := hG.1; omega
    have hi := inR_nI (k := j) (N := 6) hj6 (by decide)
    obtain ⟨z, hz, hkz⟩ := hG.2.2.2.2.2.2.1 j
    have e1 := C_gai_loop hG hC hj hz 10 0 80 0 (by omega) (by omega)
    obtain ⟨q1, e2, e3, e4⟩ := M_gai_loop hG hM hj hz hkz 10 0 80 0 q (gy j) (by omega) (by omega) (fun _ _ => rfl) (by rw [upd_self']; exact hM.2.2.2.2.2.2.2.1)
    rw [nI_0] at e1 e2
    refine ⟨?y, w, q1, ?p1, ?p2, ?p3⟩
    case p1 =>
      rw [if_pos h1, if_pos hi, cl6 hj6, hC.2.2.2.2.2.1, hkz, e1]
    case p2 =>
      rw [if_pos h2, if_pos hi, cl6 hj6, hM.2.2.2.2.2.2.2.1, e2]
    case p3 =>
      obtain ⟨c2, c3, c4, c5, c6, r0, r1, r2, r3, r4, r5, r6⟩ := hC
      obtain ⟨w4, w3, w2, w5, w13, q4, q5, q6, q7, q3, q16, q17⟩ := hM
      exact Rel_of c d k m t kd bk gy lo sp cn vl ht hf (hS.c (fun _ _ => rfl) (fun i hi => e3 i (by omega))) hG c2 c3 c4 c5 c6 r0 r1 r2 r3 r4 r5 r6 w4 w3 w2 w5 w13 (by rw [e3 4 (by decide), q4]) (by rw [e3 5 (by decide), q5]) e4 (by rw [e3 7 (by decide), q7]) (by rw [e3 3 (by decide), q3]) (by rw [e3 16 (by decide), q16]) (by rw [e3 17 (by decide), q17])
theorem op20 : Op20 Rel := by
  intro v r w q z0 hR
  obtain ⟨ht, hf, hS, c, d, k, m, t, kd, bk, gy, lo, sp, cn, vl, hG, hC, hM⟩ := id hR
  unfold f_X7_kinds f_X8_kinds
  rcases art_cases hC.1 hM.1 hG.1 r q z0 with ⟨h1, h2⟩ | ⟨j, hj, rfl, h1, h2⟩
  · exact ⟨-1, w, q, by simp [h1], by simp [h2], hR⟩
  · have hj6 : j < 6 := by have := hG.1; omega
    have hi := inR_nI (k := j) (N := 6) hj6 (by decide)
    obtain ⟨g, hg, hgg⟩ := hG.2.2.2.2.2.2.2.2.1 j
    have e1 := C_kin_loop hG hC hj hg 3 0 80 0 (by omega) (by omega)
    obtain ⟨q1, e2, e3, e4⟩ := M_kin_loop hG hM hj hg hgg 3 0 80 0 q (kd j) (by omega) (by omega) (fun _ _ => rfl) (by rw [upd_self']; exact hM.2.2.2.2.2.1)
    rw [nI_0] at e1 e2
    refine ⟨?y, w, q1, ?p1, ?p2, ?p3⟩
    case p1 =>
      rw [if_pos h1, if_pos hi, cl6 hj6, hC.2.2.2.2.2.2.2.1, hgg, e1]
    case p2 =>
      rw [if_pos h2, if_pos hi, cl6 hj6, hM.2.2.2.2.2.1, e2]
    case p3 =>
      obtain ⟨c2, c3, c4, c5, c6, r0, r1, r2, r3, r4, r5, r6⟩ := hC
      obtain ⟨w4, w3, w2, w5, w13, q4, q5, q6, q7, q3, q16, q17⟩ := hM
      exact Rel_of c d k m t kd bk gy lo sp cn vl ht hf (hS.c (fun _ _ => rfl) (fun i hi => e3 i (by omega))) hG c2 c3 c4 c5 c6 r0 r1 r2 r3 r4 r5 r6 w4 w3 w2 w5 w13 e4 (by rw [e3 5 (by decide), q5]) (by rw [e3 6 (by decide), q6]) (by rw [e3 7 (by decide), q7]) (by rw [e3 3 (by decide), q3]) (by rw [e3 16 (by decide), q16]) (by rw [e3 17 (by decide), q17])
def bitsL (A : Nat → Bool) (k n : Nat) (acc : Int64) : Int64 := iter (fun g a => if A g = true then a ||| (1 : Int64) <<< ((nI g).toInt64 &&& 63) else a) k n acc
theorem wh_ix {h x : Nat} : (32 : Int32) * nI h + nI x = nI (32 * h + x) := by
  show nI 32 * nI h + nI x = _
  rw [pk_mul, nI_add]
theorem C_wh_loop {v : V1} {r : V2} {t S h : Nat} {cn vl : Nat → Int32} (c6 : v 6 = nI t) (ht : t ≤ 8) (r5 : r 5 = cn) (r6 : r 6 = vl) (hcn : ∀ j, ∃ z, z < 64 ∧ cn j = nI z) (hS : S ≤ 108) (hh : h ≤ 1) : ∀ (n x fu : Nat) (acc : Int64), x + n = 32 → n < fu → f_X7_wheres_43 v r (nI h) fu (nI S) acc (nI x) = some (bitsL (fun g => allb (fun i => decide (nI (HR S (32 * h + g) (czn cn i)) = vl i)) t 0) x n acc) := by
  intro n
  induction n with
  | zero =>
    intro x fu acc hx hf
    obtain ⟨f', rfl⟩ : ∃ f', fu = f' + 1 := ⟨fu - 1, by omega⟩
    have e : x = 32 := by omega
    subst e
    rw [f_X7_wheres_43_s, if_pos (show (32 : Int32) ≤ nI 32 by decide)]
    rfl
  | succ n ih =>
    intro x fu acc hx hf
    obtain ⟨f', rfl⟩ : ∃ f', fu = f' + 1 := ⟨fu - 1, by omega⟩
    have h9 : ¬ (32 : Int32) ≤ nI x := nI_ge (a := x) (b := 32) (by omega) (by omega)
    rw [f_X7_wheres_43_s, if_neg h9, wh_ix, C_all c6 ht r5 r6 hcn hS (by omega), Option.bind_some]
    show _ = some (iter _ (x + 1) n (if allb (fun i => decide (nI (HR S (32 * h + x) (czn cn i)) = vl i)) t 0 = true then acc ||| (1 : Int64) <<< ((nI x).toInt64 &&& 63) else acc))
    by_cases h : allb (fun i => decide (nI (HR S (32 * h + x) (czn cn i)) = vl i)) t 0 = true
    · rw [if_pos h, if_pos h, nI_1]
      exact ih (x + 1) f' _ (by omega) (by omega)
    · rw [if_neg h, if_neg h, nI_1]
      exact ih (x + 1) f' _ (by omega) (by omega)
theorem M_wh_loop {w : V1} {q : V2} {c d k m t h S : Nat} {kd bk gy lo sp cn vl : Nat → Int32} (hG : RG c d k m t kd bk gy lo sp cn vl) (hM : MS c d k m t kd bk gy lo sp cn vl w q) (hl : LGS c kd gy (nI m) = nI S) (hS : S ≤ 108) (hh : h ≤ 1) : ∀ (n x fu : Nat) (acc : Int64) (w2' : V1), x + n = 32 → n < fu → (∀ i, i ≠ 2 → w2' i = w i) → ∃ w1, f_X8_wheres_30 (nI h) fu (nI k) acc (nI x) w2' q = some (bitsL (fun g => allb (fun i => decide (nI (HR S (32 * h + g) (czn cn i)) = vl i)) t 0) x n acc, (w1, q)) ∧ (∀ i, i ≠ 2 → w1 i = w i) ∧ w1 2 = nI k := by
  intro n
  obtain ⟨w4, w3, w2, w5, w13, q4, q5, q6, q7, q3, q16, q17⟩ := hM
  induction n with
  | zero =>
    intro x fu acc w9 hx hf h1
    obtain ⟨f', rfl⟩ : ∃ f', fu = f' + 1 := ⟨fu - 1, by omega⟩
    have e : x = 32 := by omega
    subst e
    refine ⟨upd w9 2 (nI k), ?_, fun i hi => by rw [pk_un hi, h1 i hi], pk_us⟩
    rw [f_X8_wheres_30_s, if_pos (show (32 : Int32) ≤ nI 32 by decide)]
    rfl
  | succ n ih =>
    intro x fu acc w9 hx hf h1
    obtain ⟨f', rfl⟩ : ∃ f', fu = f' + 1 := ⟨fu - 1, by omega⟩
    have h9 : ¬ (32 : Int32) ≤ nI x := nI_ge (a := x) (b := 32) (by omega) (by omega)
    have hrow : ∀ i, i ≠ 2 → upd w9 2 (nI (32 * h + x)) i = w i := fun i hi => by rw [pk_un hi, h1 i hi]
    have hl2 : f_X8_laughsOf (upd w9 2 (nI (32 * h + x))) q (nI m) = some (nI S) := by
      rw [M_laughsOf (by rw [hrow 4 (by decide), w4]) hG.1 q4 q6 hG.2.2.2.2.2.2.1 hG.2.2.2.2.2.2.2.2.1, hl]
    have hall := M_all hl2 (k := 32 * h + x) pk_us (by rw [hrow 5 (by decide), w5]) (by rw [hrow 13 (by decide), w13]) hG.2.2.2.2.2.1 q16 q17 hG.2.2.2.2.2.2.2.2.2.2.2.1 hS (by omega)
    rw [f_X8_wheres_30_s, if_neg h9, wh_ix, hall, Option.bind_some]
    show ∃ w1, _ = some (iter _ (x + 1) n (if allb (fun i => decide (nI (HR S (32 * h + x) (czn cn i)) = vl i)) t 0 = true then acc ||| (1 : Int64) <<< ((nI x).toInt64 &&& 63) else acc), (w1, q)) ∧ _
    by_cases h : allb (fun i => decide (nI (HR S (32 * h + x) (czn cn i)) = vl i)) t 0 = true
    · rw [if_pos h, if_pos h, nI_1]
      exact ih (x + 1) f' _ _ (by omega) (by omega) hrow
    · rw [if_neg h, if_neg h, nI_1, or0L]
      exact ih (x + 1) f' _ _ (by omega) (by omega) hrow
theorem op21 : Op21 Rel := by
  intro v r w q z0 hR
  obtain ⟨ht, hf, hS, c, d, k, m, t, kd, bk, gy, lo, sp, cn, vl, hG, hC, hM⟩ := id hR
  unfold f_X7_wheres f_X8_wheres
  rw [within8]
  cases hb : f_X7_within z0 0 1 with
  | false => exact ⟨_, w, q, rfl, rfl, hR⟩
  | true =>
    obtain ⟨h, hh, rfl⟩ := within_nI (M := 1) (by decide) hb
    rcases stands_cases hC.1 hM.1 hG.1 r with ⟨-, h1, h2⟩ | ⟨-, h1, h2⟩
    · exact ⟨_, w, q, by rw [if_pos rfl, if_neg (by rw [h1]; decide)], by rw [if_pos rfl, if_pos h2], hR⟩
    · obtain ⟨S, hSS, eS⟩ := LGS_nat (c := c) hG.2.2.2.2.2.2.1 hG.2.2.2.2.2.2.2.2.1 (nI m)
      have hS108 : S ≤ 108 := by have := hG.1; omega
      have e1 := C_wh_loop (h := h) hC.2.2.2.2.1 hG.2.2.2.2.2.1 hC.2.2.2.2.2.2.2.2.2.2.1 hC.2.2.2.2.2.2.2.2.2.2.2 hG.2.2.2.2.2.2.2.2.2.2.2.1 hS108 hh 32 0 80 0 (by omega) (by omega)
      obtain ⟨w1, e2, e3, e4⟩ := M_wh_loop hG hM eS hS108 hh 32 0 80 0 w (by omega) (by omega) (fun _ _ => rfl)
      rw [nI_0] at e1 e2
      refine ⟨?y, w1, q, ?p1, ?p2, ?p3⟩
      case p1 =>
        rw [if_pos rfl, if_pos h1, hC.2.2.2.1, C_laughOf hC.1 hG.1 hC.2.2.2.2.2.1 hC.2.2.2.2.2.2.2.1, eS, Option.bind_some, e1]
      case p2 =>
        rw [if_pos rfl, if_neg h2, hM.2.2.1, e2]
      case p3 =>
        obtain ⟨c2, c3, c4, c5, c6, r0, r1, r2, r3, r4, r5, r6⟩ := hC
        obtain ⟨w4, w3, w2, w5, w13, q4, q5, q6, q7, q3, q16, q17⟩ := hM
        exact Rel_of c d k m t kd bk gy lo sp cn vl (by rw [e3 1 (by decide)]; exact ht) (by rw [e3 0 (by decide)]; exact hf) hS hG c2 c3 c4 c5 c6 r0 r1 r2 r3 r4 r5 r6 (by rw [e3 4 (by decide), w4]) (by rw [e3 3 (by decide), w3]) e4 (by rw [e3 5 (by decide), w5]) (by rw [e3 13 (by decide), w13]) q4 q5 q6 q7 q3 q16 q17
